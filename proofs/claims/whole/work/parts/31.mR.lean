set_option maxHeartbeats 4000000 in
set_option maxRecDepth 100000 in
theorem m_X7_isGood {l : Launch} {G : GP} {sz : Nat} {q0 : Nat} {σ σ0 : St} {r0 : Int32} (h : f_X7_isGood q0 σ = some (r0, σ0)) : Met l yX7_isGood [.code yX7_isGood cX7_isGood 1 (some .boolean)] ({ frames := 0, cells := 0, slots := 0, locals := 0 } : Room) (va_Pc [.ref (G.2.2.2 + q0)] (PreC G skR sz σ)) (QO (PoC G skR σ0) (Aw G.2.2.2 skR.1 sz) (some (.int r0))) 0 0 (Aw G.2.2.2 skR.1 sz) := by
  refine mkMet (by decide +kernel) (Nat.le_of_ble_eq_true rfl) skR_ok ?_
  intro p e s m below meth c ls E hW hl hr hlk
  have hl : lv_has ls 1 [(0, .ref (G.2.2.2 + q0))] := hl
  generalize Aw G.2.2.2 skR.1 s.heap.size = A0 at E hW ⊢
  generalize ([.ref (G.2.2.2 + q0)] : List Value).toArray = args
  unfold f_X7_isGood at h
  refine lv_aload_n E.1 E.2.1 dX7_isGood_0 rfl (lv_at hl 0 rfl) ?_
  obtain ⟨g1, h⟩ := gd_r h
  refine gf_X7_173 E hW g1 dX7_isGood_1 ?_
  refine lv_if_ne (tgt := 11) E.1 E.2.1 dX7_isGood_4 (by decide) (fun g => ?_) (fun g => ?_)
  · have h := ifn h g
    refine lv_iconst (v := (0 : Int32)) E.1 E.2.1 dX7_isGood_11 (by decide) ?_
    exact e_z E hW hr hlk (by decide) h dX7_isGood_12
  · have h := ifp h g
    refine lv_iconst (v := (1 : Int32)) E.1 E.2.1 dX7_isGood_7 (by decide) ?_
    refine lv_goto (tgt := 12) E.1 E.2.1 dX7_isGood_8 (by decide) ?_
    exact e_z E hW hr hlk (by decide) h dX7_isGood_12
set_option maxHeartbeats 4000000 in
set_option maxRecDepth 100000 in
theorem m_X7_report {l : Launch} {G : GP} {sz : Nat} {q0 : Nat} {a1 : Int32} {a2 : Int32} {σ σ0 : St} {r0 : Unit} (h : f_X7_report q0 a1 a2 σ = some (r0, σ0)) : Met l yX7_report [.code yX7_report cX7_report 3 none] ({ frames := 0, cells := 0, slots := 0, locals := 0 } : Room) (va_Pc [.ref (G.2.2.2 + q0), .int a1, .int a2] (PreC G skR sz σ)) (QO (PoC G skR σ0) (Aw G.2.2.2 skR.1 sz) none) 0 0 (Aw G.2.2.2 skR.1 sz) := by
  refine mkMet (by decide +kernel) (Nat.le_of_ble_eq_true rfl) skR_ok ?_
  intro p e s m below meth c ls E hW hl hr hlk
  have hl : lv_has ls 3 [(0, .ref (G.2.2.2 + q0)), (1, .int a1), (2, .int a2)] := hl
  generalize Aw G.2.2.2 skR.1 s.heap.size = A0 at E hW ⊢
  generalize ([.ref (G.2.2.2 + q0), .int a1, .int a2] : List Value).toArray = args
  unfold f_X7_report at h
  refine lv_aload_n E.1 E.2.1 dX7_report_0 rfl (lv_at hl 0 rfl) ?_
  obtain ⟨g1, h⟩ := gd_r h
  refine gf_X7_173 E hW g1 dX7_report_1 ?_
  refine lv_if_eq (tgt := 8) E.1 E.2.1 dX7_report_4 (by decide) (fun g => ?_) (fun g => ?_)
  · have h := ifp h g
    refine lv_aload_n E.1 E.2.1 dX7_report_8 rfl (lv_at hl 0 rfl) ?_
    refine lv_iload_n E.1 E.2.1 dX7_report_9 rfl (lv_at hl 1 rfl) ?_
    refine pf_X7_173 E hW g1 dX7_report_10 (fun σ2 H locs eσ2 hW => ?_)
    have h := bnd_r eσ2 h
    refine lv_aload_n E.1 E.2.1 dX7_report_13 rfl (lv_at hl 0 rfl) ?_
    refine lv_iload_n E.1 E.2.1 dX7_report_14 rfl (lv_at hl 2 rfl) ?_
    refine pf_X7_176 E hW g1 dX7_report_15 (fun σ3 H locs eσ3 hW => ?_)
    have h := bnd_r eσ3 h
    exact e_v E hW hr hlk h dX7_report_18
  · have h := ifn h g
    exact e_v E hW hr hlk h dX7_report_7
set_option maxHeartbeats 4000000 in
set_option maxRecDepth 100000 in
theorem m_X7_isDigit {l : Launch} {G : GP} {sz : Nat} {a0 : Int32} {σ σ0 : St} {r0 : Int32} (h : f_X7_isDigit a0 σ = some (r0, σ0)) : Met l yX7_isDigit [.code yX7_isDigit cX7_isDigit 1 (some .boolean)] ({ frames := 1, cells := 0, slots := 0, locals := 22 } : Room) (va_Pc [.int a0] (PreC G skR sz σ)) (QO (PoC G skR σ0) (Aw G.2.2.2 skR.1 sz) (some (.int r0))) 0 0 (Aw G.2.2.2 skR.1 sz) := by
  refine mkMet (by decide +kernel) (Nat.le_of_ble_eq_true rfl) skR_ok ?_
  intro p e s m below meth c ls E hW hl hr hlk
  have hl : lv_has ls 1 [(0, .int a0)] := hl
  generalize Aw G.2.2.2 skR.1 s.heap.size = A0 at E hW ⊢
  generalize ([.int a0] : List Value).toArray = args
  unfold f_X7_isDigit at h
  refine lv_iload_n E.1 E.2.1 dX7_isDigit_0 rfl (lv_at hl 0 rfl) ?_
  refine lv_bipush (v := (48 : Int32)) E.1 E.2.1 dX7_isDigit_1 (by decide) ?_
  refine lv_bipush (v := (57 : Int32)) E.1 E.2.1 dX7_isDigit_3 (by decide) ?_
  obtain ⟨x2, σ1, c3, h⟩ := obn_r h
  refine c_S (As := [.int a0, .int (48 : Int32), .int (57 : Int32)]) (rest := []) E hW (m_X7_in c3) kw_1012 ws_X7_in yo_X7_in ⟨rfl, rfl⟩ ⟨(Nat.le_of_ble_eq_true rfl), (Nat.le_of_ble_eq_true rfl)⟩ (lv_size hl) (Nat.le_of_ble_eq_true rfl) ⟨(Nat.le_of_ble_eq_true rfl), (Nat.le_of_ble_eq_true rfl)⟩ rfl dX7_isDigit_5 (fun H locs hW => ?_)
  refine W.eq (g2 := F0 m 8 ls [.int x2]) rfl ?_
  obtain ⟨g4, h⟩ := gd_r h
  exact e_z E hW hr hlk g4 h dX7_isDigit_8
set_option maxHeartbeats 4000000 in
set_option maxRecDepth 100000 in
theorem L_X7_takeWord_16 {p : Program} {l : Launch} {e : Env} {s : State} {m : MethodId} {args : Array Value} {below : List Frame} {meth : Method} {c : Code} {G : GP} {A0 : Nat → Prop} {σ0 : St} {r0 : Int32} {K48 : Nat → Nat → Int32 → St → Option (Int32 × St)} (E : En p m c s cX7_takeWord 3 yX7_takeWord.cls G A0) (hr : meth.sig.returnType = (some .boolean)) (hlk : meth.locks = false) (hK48 : ∀ (q13 : Nat) (q14 : Nat) (x15 : Int32) (σ12 : St) (H : Heap) (locs : List Loc) (ls : Array Slot), K48 q13 q14 x15 σ12 = some (r0, σ0) → Wo G skR A0 s σ12 H locs → lv_has ls 3 [(0, .ref (G.2.2.2 + q13)), (1, .ref (G.2.2.1 q14)), (2, .int x15)] → W p l e ({ frames := 6, cells := 0, slots := 0, locals := 200 } : Room) s m args below meth c H locs 0 0 (MQ below (QO (PoC G skR σ0) A0 (some (.int r0))) args s 0 0 A0) (F0 m 48 ls [])) : ∀ (n16 : Nat) (q9 : Nat) (q10 : Nat) (x11 : Int32) (σ8 : St) (H : Heap) (locs : List Loc) (ls : Array Slot), f_X7_takeWord_L16 K48 n16 q9 q10 x11 σ8 = some (r0, σ0) → Wo G skR A0 s σ8 H locs → lv_has ls 3 [(0, .ref (G.2.2.2 + q9)), (1, .ref (G.2.2.1 q10)), (2, .int x11)] → W p l e ({ frames := 6, cells := 0, slots := 0, locals := 200 } : Room) s m args below meth c H locs 0 0 (MQ below (QO (PoC G skR σ0) A0 (some (.int r0))) args s 0 0 A0) (F0 m 16 ls []) := by
  intro n16
  induction n16 with
  | zero =>
    intro q9 q10 x11 σ8 H locs ls h hW hl
    rw [f_X7_takeWord_L16] at h
    cases h
  | succ n16 ih =>
    intro q9 q10 x11 σ8 H locs ls h hW hl
    rw [f_X7_takeWord_L16] at h
    refine lv_iload_n E.1 E.2.1 dX7_takeWord_16 rfl (lv_at hl 2 rfl) ?_
    refine lv_aload_n E.1 E.2.1 dX7_takeWord_17 rfl (lv_at hl 1 rfl) ?_
    obtain ⟨g17, h⟩ := gd_r h
    refine c_len E hW (lv_size hl) g17 kw_1036 (Nat.le_of_ble_eq_true rfl) ⟨(Nat.le_of_ble_eq_true rfl), (Nat.le_of_ble_eq_true rfl)⟩ ⟨(Nat.le_of_ble_eq_true rfl), (Nat.le_of_ble_eq_true rfl)⟩ dX7_takeWord_18 (fun H locs hW => ?_)
    refine W.eq (g2 := F0 m 21 ls [.int (nI (strB q10).length), .int x11]) rfl ?_
    refine lv_icmp_ge (tgt := 48) E.1 E.2.1 dX7_takeWord_21 (by decide) (fun g => ?_) (fun g => ?_)
    · have h := ifp h g
      exact hK48 _ _ _ _ _ _ _ h hW (lv_sub hl [0, 1, 2] rfl)
    · have h := ifn h g
      refine lv_aload_n E.1 E.2.1 dX7_takeWord_24 rfl (lv_at hl 0 rfl) ?_
      refine lv_aload_n E.1 E.2.1 dX7_takeWord_25 rfl (lv_at hl 0 rfl) ?_
      obtain ⟨g18, h⟩ := gd_r h
      refine gf_X7_167 E hW g18 dX7_takeWord_26 ?_
      refine lv_iload_n E.1 E.2.1 dX7_takeWord_29 rfl (lv_at hl 2 rfl) ?_
      refine lv_iadd E.1 E.2.1 dX7_takeWord_30 ?_
      obtain ⟨x20, σ19, c21, h⟩ := obn_r h
      refine c_V (As := [.int ((σ8.1 q9 4) + x11)]) (rest := []) E hW (m_X7_byteAt c21) g18 rfl kw_1032 wv_X7_byteAt yo_X7_byteAt ⟨rfl, rfl⟩ ⟨(Nat.le_of_ble_eq_true rfl), (Nat.le_of_ble_eq_true rfl)⟩ (lv_size hl) (Nat.le_of_ble_eq_true rfl) ⟨(Nat.le_of_ble_eq_true rfl), (Nat.le_of_ble_eq_true rfl)⟩ rfl dX7_takeWord_31 (fun H locs hW => ?_)
      refine W.eq (g2 := F0 m 34 ls [.int x20]) rfl ?_
      refine lv_aload_n E.1 E.2.1 dX7_takeWord_34 rfl (lv_at hl 1 rfl) ?_
      refine lv_iload_n E.1 E.2.1 dX7_takeWord_35 rfl (lv_at hl 2 rfl) ?_
      obtain ⟨g22, h⟩ := gd_r h
      refine c_charAt E hW (lv_size hl) g22 kw_1037 (Nat.le_of_ble_eq_true rfl) ⟨(Nat.le_of_ble_eq_true rfl), (Nat.le_of_ble_eq_true rfl)⟩ ⟨(Nat.le_of_ble_eq_true rfl), (Nat.le_of_ble_eq_true rfl)⟩ dX7_takeWord_36 (fun H locs hW => ?_)
      refine W.eq (g2 := F0 m 39 ls [.int ((strB q10).getD x11.toNatClampNeg 0), .int x20]) rfl ?_
      refine lv_icmp_ne (tgt := 48) E.1 E.2.1 dX7_takeWord_39 (by decide) (fun g => ?_) (fun g => ?_)
      · have h := ifn h g
        exact hK48 _ _ _ _ _ _ _ h hW (lv_sub hl [0, 1, 2] rfl)
      · have h := ifp h g
        obtain ⟨x23, ex23⟩ : ∃ y : Int32, y = x11 + (1 : Int32) := ⟨_, rfl⟩
        have h := bnd_r ex23 h
        refine lv_iinc (v := x23) (lv' := [(2, .int x23), (0, .ref (G.2.2.2 + q9)), (1, .ref (G.2.2.1 q10))]) E.1 E.2.1 dX7_takeWord_42 hl (k := 2) rfl (by rw [ex23]; rfl) (by decide) rfl (fun ls hl => ?_)
        refine lv_goto (tgt := 16) E.1 E.2.1 dX7_takeWord_45 (by decide) ?_
        exact ih _ _ _ _ _ _ _ h hW (lv_sub hl [1, 2, 0] rfl)
set_option maxHeartbeats 4000000 in
set_option maxRecDepth 100000 in
theorem m_X7_takeWord {l : Launch} {G : GP} {sz : Nat} {q0 : Nat} {q1 : Nat} {σ σ0 : St} {r0 : Int32} (h : f_X7_takeWord q0 q1 σ = some (r0, σ0)) : Met l yX7_takeWord [.code yX7_takeWord cX7_takeWord 3 (some .boolean)] ({ frames := 6, cells := 0, slots := 0, locals := 200 } : Room) (va_Pc [.ref (G.2.2.2 + q0), .ref (G.2.2.1 q1)] (PreC G skR sz σ)) (QO (PoC G skR σ0) (Aw G.2.2.2 skR.1 sz) (some (.int r0))) 0 0 (Aw G.2.2.2 skR.1 sz) := by
  refine mkMet (by decide +kernel) (Nat.le_of_ble_eq_true rfl) skR_ok ?_
  intro p e s m below meth c ls E hW hl hr hlk
  have hl : lv_has ls 3 [(0, .ref (G.2.2.2 + q0)), (1, .ref (G.2.2.1 q1))] := hl
  generalize Aw G.2.2.2 skR.1 s.heap.size = A0 at E hW ⊢
  generalize ([.ref (G.2.2.2 + q0), .ref (G.2.2.1 q1)] : List Value).toArray = args
  unfold f_X7_takeWord at h
  refine lv_aload_n E.1 E.2.1 dX7_takeWord_0 rfl (lv_at hl 0 rfl) ?_
  obtain ⟨g1, h⟩ := gd_r h
  obtain ⟨x3, σ2, c4, h⟩ := obn_r h
  refine c_V (As := []) (rest := []) E hW (m_X7_isGood c4) g1 rfl kw_1024 wv_X7_isGood yo_X7_isGood ⟨rfl, rfl⟩ ⟨(Nat.le_of_ble_eq_true rfl), (Nat.le_of_ble_eq_true rfl)⟩ (lv_size hl) (Nat.le_of_ble_eq_true rfl) ⟨(Nat.le_of_ble_eq_true rfl), (Nat.le_of_ble_eq_true rfl)⟩ rfl dX7_takeWord_1 (fun H locs hW => ?_)
  refine W.eq (g2 := F0 m 4 ls [.int x3]) rfl ?_
  refine lv_if_ne (tgt := 9) E.1 E.2.1 dX7_takeWord_4 (by decide) (fun g => ?_) (fun g => ?_)
  · have h := ifn h g
    refine lv_aload_n E.1 E.2.1 dX7_takeWord_9 rfl (lv_at hl 0 rfl) ?_
    obtain ⟨x6, σ5, c7, h⟩ := obn_r h
    refine c_V (As := []) (rest := []) E hW (m_X7_next c7) g1 rfl kw_1028 wv_X7_next yo_X7_next ⟨rfl, rfl⟩ ⟨(Nat.le_of_ble_eq_true rfl), (Nat.le_of_ble_eq_true rfl)⟩ (lv_size hl) (Nat.le_of_ble_eq_true rfl) ⟨(Nat.le_of_ble_eq_true rfl), (Nat.le_of_ble_eq_true rfl)⟩ rfl dX7_takeWord_10 (fun H locs hW => ?_)
    refine W.eq (g2 := F0 m 13 ls [.int x6]) rfl ?_
    refine lv_pop E.1 E.2.1 dX7_takeWord_13 rfl ?_
    refine lv_iconst (v := (0 : Int32)) E.1 E.2.1 dX7_takeWord_14 (by decide) ?_
    refine lv_istore_n (lv' := [(2, .int (0 : Int32)), (0, .ref (G.2.2.2 + q0)), (1, .ref (G.2.2.1 q1))]) E.1 E.2.1 dX7_takeWord_15 rfl hl (by decide) rfl (fun ls hl => ?_)
    refine L_X7_takeWord_16 E hr hlk ?_ _ _ _ _ _ _ _ _ h hW (lv_sub hl [1, 2, 0] rfl)
    · intro q13 q14 x15 σ12 H locs ls h hW hl
      refine lv_iload_n E.1 E.2.1 dX7_takeWord_48 rfl (lv_at hl 2 rfl) ?_
      refine lv_aload_n E.1 E.2.1 dX7_takeWord_49 rfl (lv_at hl 1 rfl) ?_
      obtain ⟨g24, h⟩ := gd_r h
      refine c_len E hW (lv_size hl) g24 kw_1036 (Nat.le_of_ble_eq_true rfl) ⟨(Nat.le_of_ble_eq_true rfl), (Nat.le_of_ble_eq_true rfl)⟩ ⟨(Nat.le_of_ble_eq_true rfl), (Nat.le_of_ble_eq_true rfl)⟩ dX7_takeWord_50 (fun H locs hW => ?_)
      refine W.eq (g2 := F0 m 53 ls [.int (nI (strB q14).length), .int x15]) rfl ?_
      refine lv_icmp_lt (tgt := 76) E.1 E.2.1 dX7_takeWord_53 (by decide) (fun g => ?_) (fun g => ?_)
      · have h := ifp h g
        refine lv_iconst (v := (0 : Int32)) E.1 E.2.1 dX7_takeWord_76 (by decide) ?_
        exact e_z E hW hr hlk (by decide) h dX7_takeWord_77
      · have h := ifn h g
        refine lv_aload_n E.1 E.2.1 dX7_takeWord_56 rfl (lv_at hl 0 rfl) ?_
        refine lv_aload_n E.1 E.2.1 dX7_takeWord_57 rfl (lv_at hl 0 rfl) ?_
        obtain ⟨g25, h⟩ := gd_r h
        refine gf_X7_167 E hW g25 dX7_takeWord_58 ?_
        refine lv_iload_n E.1 E.2.1 dX7_takeWord_61 rfl (lv_at hl 2 rfl) ?_
        refine lv_iadd E.1 E.2.1 dX7_takeWord_62 ?_
        obtain ⟨x27, σ26, c28, h⟩ := obn_r h
        refine c_V (As := [.int ((σ12.1 q13 4) + x15)]) (rest := []) E hW (m_X7_byteAt c28) g25 rfl kw_1032 wv_X7_byteAt yo_X7_byteAt ⟨rfl, rfl⟩ ⟨(Nat.le_of_ble_eq_true rfl), (Nat.le_of_ble_eq_true rfl)⟩ (lv_size hl) (Nat.le_of_ble_eq_true rfl) ⟨(Nat.le_of_ble_eq_true rfl), (Nat.le_of_ble_eq_true rfl)⟩ rfl dX7_takeWord_63 (fun H locs hW => ?_)
        refine W.eq (g2 := F0 m 66 ls [.int x27]) rfl ?_
        refine lv_bipush (v := (97 : Int32)) E.1 E.2.1 dX7_takeWord_66 (by decide) ?_
        refine lv_bipush (v := (122 : Int32)) E.1 E.2.1 dX7_takeWord_68 (by decide) ?_
        obtain ⟨x30, σ29, c31, h⟩ := obn_r h
        refine c_S (As := [.int x27, .int (97 : Int32), .int (122 : Int32)]) (rest := []) E hW (m_X7_in c31) kw_1012 ws_X7_in yo_X7_in ⟨rfl, rfl⟩ ⟨(Nat.le_of_ble_eq_true rfl), (Nat.le_of_ble_eq_true rfl)⟩ (lv_size hl) (Nat.le_of_ble_eq_true rfl) ⟨(Nat.le_of_ble_eq_true rfl), (Nat.le_of_ble_eq_true rfl)⟩ rfl dX7_takeWord_70 (fun H locs hW => ?_)
        refine W.eq (g2 := F0 m 73 ls [.int x30]) rfl ?_
        refine lv_if_eq (tgt := 78) E.1 E.2.1 dX7_takeWord_73 (by decide) (fun g => ?_) (fun g => ?_)
        · have h := ifp h g
          refine lv_aload_n E.1 E.2.1 dX7_takeWord_78 rfl (lv_at hl 0 rfl) ?_
          refine lv_dup E.1 E.2.1 dX7_takeWord_79 rfl ?_
          refine gf_X7_167 E hW g25 dX7_takeWord_80 ?_
          refine lv_iload_n E.1 E.2.1 dX7_takeWord_83 rfl (lv_at hl 2 rfl) ?_
          refine lv_iadd E.1 E.2.1 dX7_takeWord_84 ?_
          refine pf_X7_167 E hW g25 dX7_takeWord_85 (fun σ32 H locs eσ32 hW => ?_)
          have h := bnd_r eσ32 h
          refine lv_iconst (v := (1 : Int32)) E.1 E.2.1 dX7_takeWord_88 (by decide) ?_
          exact e_z E hW hr hlk (by decide) h dX7_takeWord_89
        · have h := ifn h g
          refine lv_iconst (v := (0 : Int32)) E.1 E.2.1 dX7_takeWord_76 (by decide) ?_
          exact e_z E hW hr hlk (by decide) h dX7_takeWord_77
  · have h := ifp h g
    refine lv_iconst (v := (0 : Int32)) E.1 E.2.1 dX7_takeWord_7 (by decide) ?_
    exact e_z E hW hr hlk (by decide) h dX7_takeWord_8
set_option maxHeartbeats 4000000 in
set_option maxRecDepth 100000 in
theorem m_X7_expect {l : Launch} {G : GP} {sz : Nat} {q0 : Nat} {a1 : Int32} {σ σ0 : St} {r0 : Unit} (h : f_X7_expect q0 a1 σ = some (r0, σ0)) : Met l yX7_expect [.code yX7_expect cX7_expect 2 none] ({ frames := 2, cells := 0, slots := 0, locals := 41 } : Room) (va_Pc [.ref (G.2.2.2 + q0), .int a1] (PreC G skR sz σ)) (QO (PoC G skR σ0) (Aw G.2.2.2 skR.1 sz) none) 0 0 (Aw G.2.2.2 skR.1 sz) := by
  refine mkMet (by decide +kernel) (Nat.le_of_ble_eq_true rfl) skR_ok ?_
  intro p e s m below meth c ls E hW hl hr hlk
  have hl : lv_has ls 2 [(0, .ref (G.2.2.2 + q0)), (1, .int a1)] := hl
  generalize Aw G.2.2.2 skR.1 s.heap.size = A0 at E hW ⊢
  generalize ([.ref (G.2.2.2 + q0), .int a1] : List Value).toArray = args
  unfold f_X7_expect at h
  refine lv_aload_n E.1 E.2.1 dX7_expect_0 rfl (lv_at hl 0 rfl) ?_
  obtain ⟨g1, h⟩ := gd_r h
  obtain ⟨x3, σ2, c4, h⟩ := obn_r h
  refine c_V (As := []) (rest := []) E hW (m_X7_isGood c4) g1 rfl kw_1024 wv_X7_isGood yo_X7_isGood ⟨rfl, rfl⟩ ⟨(Nat.le_of_ble_eq_true rfl), (Nat.le_of_ble_eq_true rfl)⟩ (lv_size hl) (Nat.le_of_ble_eq_true rfl) ⟨(Nat.le_of_ble_eq_true rfl), (Nat.le_of_ble_eq_true rfl)⟩ rfl dX7_expect_1 (fun H locs hW => ?_)
  refine W.eq (g2 := F0 m 4 ls [.int x3]) rfl ?_
  refine lv_if_ne (tgt := 8) E.1 E.2.1 dX7_expect_4 (by decide) (fun g => ?_) (fun g => ?_)
  · have h := ifn h g
    refine lv_aload_n E.1 E.2.1 dX7_expect_8 rfl (lv_at hl 0 rfl) ?_
    obtain ⟨x6, σ5, c7, h⟩ := obn_r h
    refine c_V (As := []) (rest := []) E hW (m_X7_next c7) g1 rfl kw_1028 wv_X7_next yo_X7_next ⟨rfl, rfl⟩ ⟨(Nat.le_of_ble_eq_true rfl), (Nat.le_of_ble_eq_true rfl)⟩ (lv_size hl) (Nat.le_of_ble_eq_true rfl) ⟨(Nat.le_of_ble_eq_true rfl), (Nat.le_of_ble_eq_true rfl)⟩ rfl dX7_expect_9 (fun H locs hW => ?_)
    refine W.eq (g2 := F0 m 12 ls [.int x6]) rfl ?_
    refine lv_iload_n E.1 E.2.1 dX7_expect_12 rfl (lv_at hl 1 rfl) ?_
    refine lv_icmp_ne (tgt := 29) E.1 E.2.1 dX7_expect_13 (by decide) (fun g => ?_) (fun g => ?_)
    · have h := ifn h g
      refine lv_aload_n E.1 E.2.1 dX7_expect_29 rfl (lv_at hl 0 rfl) ?_
      refine lv_bipush (v := (-2 : Int32)) E.1 E.2.1 dX7_expect_30 (by decide) ?_
      refine lv_aload_n E.1 E.2.1 dX7_expect_32 rfl (lv_at hl 0 rfl) ?_
      refine gf_X7_167 E hW g1 dX7_expect_33 ?_
      obtain ⟨_r, σ8, c9, h⟩ := obn_r h
      refine c_V (As := [.int (-2 : Int32), .int (σ5.1 q0 4)]) (rest := []) E hW (m_X7_report c9) g1 rfl kw_1038 wv_X7_report yo_X7_report ⟨rfl, rfl⟩ ⟨(Nat.le_of_ble_eq_true rfl), (Nat.le_of_ble_eq_true rfl)⟩ (lv_size hl) (Nat.le_of_ble_eq_true rfl) ⟨(Nat.le_of_ble_eq_true rfl), (Nat.le_of_ble_eq_true rfl)⟩ rfl dX7_expect_36 (fun H locs hW => ?_)
      refine W.eq (g2 := F0 m 39 ls []) rfl ?_
      exact e_v E hW hr hlk h dX7_expect_39
    · have h := ifp h g
      refine lv_aload_n E.1 E.2.1 dX7_expect_16 rfl (lv_at hl 0 rfl) ?_
      refine lv_dup E.1 E.2.1 dX7_expect_17 rfl ?_
      refine gf_X7_167 E hW g1 dX7_expect_18 ?_
      refine lv_iconst (v := (1 : Int32)) E.1 E.2.1 dX7_expect_21 (by decide) ?_
      refine lv_iadd E.1 E.2.1 dX7_expect_22 ?_
      refine pf_X7_167 E hW g1 dX7_expect_23 (fun σ10 H locs eσ10 hW => ?_)
      have h := bnd_r eσ10 h
      refine lv_goto (tgt := 39) E.1 E.2.1 dX7_expect_26 (by decide) ?_
      exact e_v E hW hr hlk h dX7_expect_39
  · have h := ifp h g
    exact e_v E hW hr hlk h dX7_expect_7
set_option maxHeartbeats 4000000 in
set_option maxRecDepth 100000 in
theorem L_X7_number_41 {p : Program} {l : Launch} {e : Env} {s : State} {m : MethodId} {args : Array Value} {below : List Frame} {meth : Method} {c : Code} {G : GP} {A0 : Nat → Prop} {σ0 : St} {r0 : Int32} {K90 : Nat → Int32 → Int32 → Int32 → St → Option (Int32 × St)} (E : En p m c s cX7_number 4 yX7_number.cls G A0) (hr : meth.sig.returnType = (some .int)) (hlk : meth.locks = false) (hK90 : ∀ (q18 : Nat) (x19 : Int32) (x20 : Int32) (x21 : Int32) (σ17 : St) (H : Heap) (locs : List Loc) (ls : Array Slot), K90 q18 x19 x20 x21 σ17 = some (r0, σ0) → Wo G skR A0 s σ17 H locs → lv_has ls 4 [(0, .ref (G.2.2.2 + q18)), (1, .int x19), (2, .int x20), (3, .int x21)] → W p l e ({ frames := 2, cells := 0, slots := 0, locals := 42 } : Room) s m args below meth c H locs 0 0 (MQ below (QO (PoC G skR σ0) A0 (some (.int r0))) args s 0 0 A0) (F0 m 90 ls [])) : ∀ (n22 : Nat) (q13 : Nat) (x14 : Int32) (x15 : Int32) (x16 : Int32) (σ12 : St) (H : Heap) (locs : List Loc) (ls : Array Slot), f_X7_number_L41 K90 n22 q13 x14 x15 x16 σ12 = some (r0, σ0) → Wo G skR A0 s σ12 H locs → lv_has ls 4 [(0, .ref (G.2.2.2 + q13)), (1, .int x14), (2, .int x15), (3, .int x16)] → W p l e ({ frames := 2, cells := 0, slots := 0, locals := 42 } : Room) s m args below meth c H locs 0 0 (MQ below (QO (PoC G skR σ0) A0 (some (.int r0))) args s 0 0 A0) (F0 m 41 ls []) := by
  intro n22
  induction n22 with
  | zero =>
    intro q13 x14 x15 x16 σ12 H locs ls h hW hl
    rw [f_X7_number_L41] at h
    cases h
  | succ n22 ih =>
    intro q13 x14 x15 x16 σ12 H locs ls h hW hl
    rw [f_X7_number_L41] at h
    refine lv_aload_n E.1 E.2.1 dX7_number_41 rfl (lv_at hl 0 rfl) ?_
    refine lv_aload_n E.1 E.2.1 dX7_number_42 rfl (lv_at hl 0 rfl) ?_
    obtain ⟨g23, h⟩ := gd_r h
    refine gf_X7_167 E hW g23 dX7_number_43 ?_
    obtain ⟨x25, σ24, c26, h⟩ := obn_r h
    refine c_V (As := [.int (σ12.1 q13 4)]) (rest := []) E hW (m_X7_byteAt c26) g23 rfl kw_1032 wv_X7_byteAt yo_X7_byteAt ⟨rfl, rfl⟩ ⟨(Nat.le_of_ble_eq_true rfl), (Nat.le_of_ble_eq_true rfl)⟩ (lv_size hl) (Nat.le_of_ble_eq_true rfl) ⟨(Nat.le_of_ble_eq_true rfl), (Nat.le_of_ble_eq_true rfl)⟩ rfl dX7_number_46 (fun H locs hW => ?_)
    refine W.eq (g2 := F0 m 49 ls [.int x25]) rfl ?_
    obtain ⟨x28, σ27, c29, h⟩ := obn_r h
    refine c_S (As := [.int x25]) (rest := []) E hW (m_X7_isDigit c29) kw_1069 ws_X7_isDigit yo_X7_isDigit ⟨rfl, rfl⟩ ⟨(Nat.le_of_ble_eq_true rfl), (Nat.le_of_ble_eq_true rfl)⟩ (lv_size hl) (Nat.le_of_ble_eq_true rfl) ⟨(Nat.le_of_ble_eq_true rfl), (Nat.le_of_ble_eq_true rfl)⟩ rfl dX7_number_49 (fun H locs hW => ?_)
    refine W.eq (g2 := F0 m 52 ls [.int x28]) rfl ?_
    refine lv_if_eq (tgt := 90) E.1 E.2.1 dX7_number_52 (by decide) (fun g => ?_) (fun g => ?_)
    · have h := ifp h g
      exact hK90 _ _ _ _ _ _ _ _ h hW (lv_sub hl [0, 1, 2, 3] rfl)
    · have h := ifn h g
      refine lv_ldc (v := (1000000 : Int32)) E.1 E.2.1 E.2.2.2.1 (E.wd kw_1077) dX7_number_55 ?_
      refine lv_bipush (v := (10 : Int32)) E.1 E.2.1 dX7_number_57 (by decide) ?_
      refine lv_iload_n E.1 E.2.1 dX7_number_59 rfl (lv_at hl 3 rfl) ?_
      refine lv_imul E.1 E.2.1 dX7_number_60 ?_
      refine lv_aload_n E.1 E.2.1 dX7_number_61 rfl (lv_at hl 0 rfl) ?_
      refine lv_aload_n E.1 E.2.1 dX7_number_62 rfl (lv_at hl 0 rfl) ?_
      refine gf_X7_167 E hW g23 dX7_number_63 ?_
      obtain ⟨x31, σ30, c32, h⟩ := obn_r h
      refine c_V (As := [.int (σ27.1 q13 4)]) (rest := [.int ((10 : Int32) * x16), .int (1000000 : Int32)]) E hW (m_X7_byteAt c32) g23 rfl kw_1032 wv_X7_byteAt yo_X7_byteAt ⟨rfl, rfl⟩ ⟨(Nat.le_of_ble_eq_true rfl), (Nat.le_of_ble_eq_true rfl)⟩ (lv_size hl) (Nat.le_of_ble_eq_true rfl) ⟨(Nat.le_of_ble_eq_true rfl), (Nat.le_of_ble_eq_true rfl)⟩ rfl dX7_number_66 (fun H locs hW => ?_)
      refine W.eq (g2 := F0 m 69 ls [.int x31, .int ((10 : Int32) * x16), .int (1000000 : Int32)]) rfl ?_
      refine lv_iadd E.1 E.2.1 dX7_number_69 ?_
      refine lv_bipush (v := (48 : Int32)) E.1 E.2.1 dX7_number_70 (by decide) ?_
      refine lv_isub E.1 E.2.1 dX7_number_72 ?_
      obtain ⟨x34, σ33, c35, h⟩ := obn_r h
      refine c_S (As := [.int (1000000 : Int32), .int ((((10 : Int32) * x16) + x31) - (48 : Int32))]) (rest := []) E hW (m_X7_min c35) kw_1078 ws_X7_min yo_X7_min ⟨rfl, rfl⟩ ⟨(Nat.le_of_ble_eq_true rfl), (Nat.le_of_ble_eq_true rfl)⟩ (lv_size hl) (Nat.le_of_ble_eq_true rfl) ⟨(Nat.le_of_ble_eq_true rfl), (Nat.le_of_ble_eq_true rfl)⟩ rfl dX7_number_73 (fun H locs hW => ?_)
      refine W.eq (g2 := F0 m 76 ls [.int x34]) rfl ?_
      refine lv_istore_n (lv' := [(3, .int x34), (0, .ref (G.2.2.2 + q13)), (1, .int x14), (2, .int x15)]) E.1 E.2.1 dX7_number_76 rfl hl (by decide) rfl (fun ls hl => ?_)
      refine lv_aload_n E.1 E.2.1 dX7_number_77 rfl (lv_at hl 1 rfl) ?_
      refine lv_dup E.1 E.2.1 dX7_number_78 rfl ?_
      refine gf_X7_167 E hW g23 dX7_number_79 ?_
      refine lv_iconst (v := (1 : Int32)) E.1 E.2.1 dX7_number_82 (by decide) ?_
      refine lv_iadd E.1 E.2.1 dX7_number_83 ?_
      refine pf_X7_167 E hW g23 dX7_number_84 (fun σ36 H locs eσ36 hW => ?_)
      have h := bnd_r eσ36 h
      refine lv_goto (tgt := 41) E.1 E.2.1 dX7_number_87 (by decide) ?_
      exact ih _ _ _ _ _ _ _ _ h hW (lv_sub hl [1, 2, 3, 0] rfl)
set_option maxHeartbeats 4000000 in
set_option maxRecDepth 100000 in
theorem m_X7_number {l : Launch} {G : GP} {sz : Nat} {q0 : Nat} {a1 : Int32} {a2 : Int32} {σ σ0 : St} {r0 : Int32} (h : f_X7_number q0 a1 a2 σ = some (r0, σ0)) : Met l yX7_number [.code yX7_number cX7_number 4 (some .int)] ({ frames := 2, cells := 0, slots := 0, locals := 42 } : Room) (va_Pc [.ref (G.2.2.2 + q0), .int a1, .int a2] (PreC G skR sz σ)) (QO (PoC G skR σ0) (Aw G.2.2.2 skR.1 sz) (some (.int r0))) 0 0 (Aw G.2.2.2 skR.1 sz) := by
  refine mkMet (by decide +kernel) (Nat.le_of_ble_eq_true rfl) skR_ok ?_
  intro p e s m below meth c ls E hW hl hr hlk
  have hl : lv_has ls 4 [(0, .ref (G.2.2.2 + q0)), (1, .int a1), (2, .int a2)] := hl
  generalize Aw G.2.2.2 skR.1 s.heap.size = A0 at E hW ⊢
  generalize ([.ref (G.2.2.2 + q0), .int a1, .int a2] : List Value).toArray = args
  unfold f_X7_number at h
  refine lv_aload_n E.1 E.2.1 dX7_number_0 rfl (lv_at hl 0 rfl) ?_
  obtain ⟨g1, h⟩ := gd_r h
  obtain ⟨x3, σ2, c4, h⟩ := obn_r h
  refine c_V (As := []) (rest := []) E hW (m_X7_isGood c4) g1 rfl kw_1024 wv_X7_isGood yo_X7_isGood ⟨rfl, rfl⟩ ⟨(Nat.le_of_ble_eq_true rfl), (Nat.le_of_ble_eq_true rfl)⟩ (lv_size hl) (Nat.le_of_ble_eq_true rfl) ⟨(Nat.le_of_ble_eq_true rfl), (Nat.le_of_ble_eq_true rfl)⟩ rfl dX7_number_1 (fun H locs hW => ?_)
  refine W.eq (g2 := F0 m 4 ls [.int x3]) rfl ?_
  refine lv_if_ne (tgt := 9) E.1 E.2.1 dX7_number_4 (by decide) (fun g => ?_) (fun g => ?_)
  · have h := ifn h g
    refine lv_aload_n E.1 E.2.1 dX7_number_9 rfl (lv_at hl 0 rfl) ?_
    obtain ⟨x6, σ5, c7, h⟩ := obn_r h
    refine c_V (As := []) (rest := []) E hW (m_X7_next c7) g1 rfl kw_1028 wv_X7_next yo_X7_next ⟨rfl, rfl⟩ ⟨(Nat.le_of_ble_eq_true rfl), (Nat.le_of_ble_eq_true rfl)⟩ (lv_size hl) (Nat.le_of_ble_eq_true rfl) ⟨(Nat.le_of_ble_eq_true rfl), (Nat.le_of_ble_eq_true rfl)⟩ rfl dX7_number_10 (fun H locs hW => ?_)
    refine W.eq (g2 := F0 m 13 ls [.int x6]) rfl ?_
    obtain ⟨x9, σ8, c10, h⟩ := obn_r h
    refine c_S (As := [.int x6]) (rest := []) E hW (m_X7_isDigit c10) kw_1069 ws_X7_isDigit yo_X7_isDigit ⟨rfl, rfl⟩ ⟨(Nat.le_of_ble_eq_true rfl), (Nat.le_of_ble_eq_true rfl)⟩ (lv_size hl) (Nat.le_of_ble_eq_true rfl) ⟨(Nat.le_of_ble_eq_true rfl), (Nat.le_of_ble_eq_true rfl)⟩ rfl dX7_number_13 (fun H locs hW => ?_)
    refine W.eq (g2 := F0 m 16 ls [.int x9]) rfl ?_
    refine lv_if_ne (tgt := 31) E.1 E.2.1 dX7_number_16 (by decide) (fun g => ?_) (fun g => ?_)
    · have h := ifn h g
      refine lv_aload_n E.1 E.2.1 dX7_number_31 rfl (lv_at hl 0 rfl) ?_
      refine lv_aload_n E.1 E.2.1 dX7_number_32 rfl (lv_at hl 0 rfl) ?_
      refine gf_X7_167 E hW g1 dX7_number_33 ?_
      refine pf_X7_208 E hW g1 dX7_number_36 (fun σ11 H locs eσ11 hW => ?_)
      have h := bnd_r eσ11 h
      refine lv_iconst (v := (0 : Int32)) E.1 E.2.1 dX7_number_39 (by decide) ?_
      refine lv_istore_n (lv' := [(3, .int (0 : Int32)), (0, .ref (G.2.2.2 + q0)), (1, .int a1), (2, .int a2)]) E.1 E.2.1 dX7_number_40 rfl hl (by decide) rfl (fun ls hl => ?_)
      refine L_X7_number_41 E hr hlk ?_ _ _ _ _ _ _ _ _ _ h hW (lv_sub hl [1, 2, 3, 0] rfl)
      · intro q18 x19 x20 x21 σ17 H locs ls h hW hl
        refine lv_iload_n E.1 E.2.1 dX7_number_90 rfl (lv_at hl 3 rfl) ?_
        refine lv_iload_n E.1 E.2.1 dX7_number_91 rfl (lv_at hl 1 rfl) ?_
        refine lv_iload_n E.1 E.2.1 dX7_number_92 rfl (lv_at hl 2 rfl) ?_
        obtain ⟨x38, σ37, c39, h⟩ := obn_r h
        refine c_S (As := [.int x21, .int x19, .int x20]) (rest := []) E hW (m_X7_in c39) kw_1012 ws_X7_in yo_X7_in ⟨rfl, rfl⟩ ⟨(Nat.le_of_ble_eq_true rfl), (Nat.le_of_ble_eq_true rfl)⟩ (lv_size hl) (Nat.le_of_ble_eq_true rfl) ⟨(Nat.le_of_ble_eq_true rfl), (Nat.le_of_ble_eq_true rfl)⟩ rfl dX7_number_93 (fun H locs hW => ?_)
        refine W.eq (g2 := F0 m 96 ls [.int x38]) rfl ?_
        refine lv_if_ne (tgt := 109) E.1 E.2.1 dX7_number_96 (by decide) (fun g => ?_) (fun g => ?_)
        · have h := ifn h g
          refine lv_iload_n E.1 E.2.1 dX7_number_109 rfl (lv_at hl 3 rfl) ?_
          exact e_i E hW hr hlk h dX7_number_110
        · have h := ifp h g
          refine lv_aload_n E.1 E.2.1 dX7_number_99 rfl (lv_at hl 0 rfl) ?_
          refine lv_bipush (v := (-3 : Int32)) E.1 E.2.1 dX7_number_100 (by decide) ?_
          refine lv_aload_n E.1 E.2.1 dX7_number_102 rfl (lv_at hl 0 rfl) ?_
          obtain ⟨g40, h⟩ := gd_r h
          refine gf_X7_208 E hW g40 dX7_number_103 ?_
          obtain ⟨_r, σ41, c42, h⟩ := obn_r h
          refine c_V (As := [.int (-3 : Int32), .int (σ37.1 q18 17)]) (rest := []) E hW (m_X7_report c42) g40 rfl kw_1038 wv_X7_report yo_X7_report ⟨rfl, rfl⟩ ⟨(Nat.le_of_ble_eq_true rfl), (Nat.le_of_ble_eq_true rfl)⟩ (lv_size hl) (Nat.le_of_ble_eq_true rfl) ⟨(Nat.le_of_ble_eq_true rfl), (Nat.le_of_ble_eq_true rfl)⟩ rfl dX7_number_106 (fun H locs hW => ?_)
          refine W.eq (g2 := F0 m 109 ls []) rfl ?_
          refine lv_iload_n E.1 E.2.1 dX7_number_109 rfl (lv_at hl 3 rfl) ?_
          exact e_i E hW hr hlk h dX7_number_110
    · have h := ifp h g
      refine lv_aload_n E.1 E.2.1 dX7_number_19 rfl (lv_at hl 0 rfl) ?_
      refine lv_bipush (v := (-2 : Int32)) E.1 E.2.1 dX7_number_20 (by decide) ?_
      refine lv_aload_n E.1 E.2.1 dX7_number_22 rfl (lv_at hl 0 rfl) ?_
      refine gf_X7_167 E hW g1 dX7_number_23 ?_
      obtain ⟨_r, σ43, c44, h⟩ := obn_r h
      refine c_V (As := [.int (-2 : Int32), .int (σ8.1 q0 4)]) (rest := []) E hW (m_X7_report c44) g1 rfl kw_1038 wv_X7_report yo_X7_report ⟨rfl, rfl⟩ ⟨(Nat.le_of_ble_eq_true rfl), (Nat.le_of_ble_eq_true rfl)⟩ (lv_size hl) (Nat.le_of_ble_eq_true rfl) ⟨(Nat.le_of_ble_eq_true rfl), (Nat.le_of_ble_eq_true rfl)⟩ rfl dX7_number_26 (fun H locs hW => ?_)
      refine W.eq (g2 := F0 m 29 ls []) rfl ?_
      refine lv_iconst (v := (0 : Int32)) E.1 E.2.1 dX7_number_29 (by decide) ?_
      exact e_i E hW hr hlk h dX7_number_30
  · have h := ifp h g
    refine lv_iconst (v := (0 : Int32)) E.1 E.2.1 dX7_number_7 (by decide) ?_
    exact e_i E hW hr hlk h dX7_number_8
set_option maxHeartbeats 4000000 in
set_option maxRecDepth 100000 in
theorem m_X7_refuse {l : Launch} {G : GP} {sz : Nat} {q0 : Nat} {a1 : Int32} {σ σ0 : St} {r0 : Unit} (h : f_X7_refuse q0 a1 σ = some (r0, σ0)) : Met l yX7_refuse [.code yX7_refuse cX7_refuse 2 none] ({ frames := 2, cells := 0, slots := 0, locals := 41 } : Room) (va_Pc [.ref (G.2.2.2 + q0), .int a1] (PreC G skR sz σ)) (QO (PoC G skR σ0) (Aw G.2.2.2 skR.1 sz) none) 0 0 (Aw G.2.2.2 skR.1 sz) := by
  refine mkMet (by decide +kernel) (Nat.le_of_ble_eq_true rfl) skR_ok ?_
  intro p e s m below meth c ls E hW hl hr hlk
  have hl : lv_has ls 2 [(0, .ref (G.2.2.2 + q0)), (1, .int a1)] := hl
  generalize Aw G.2.2.2 skR.1 s.heap.size = A0 at E hW ⊢
  generalize ([.ref (G.2.2.2 + q0), .int a1] : List Value).toArray = args
  unfold f_X7_refuse at h
  refine lv_aload_n E.1 E.2.1 dX7_refuse_0 rfl (lv_at hl 0 rfl) ?_
  obtain ⟨g1, h⟩ := gd_r h
  obtain ⟨x3, σ2, c4, h⟩ := obn_r h
  refine c_V (As := []) (rest := []) E hW (m_X7_isGood c4) g1 rfl kw_1024 wv_X7_isGood yo_X7_isGood ⟨rfl, rfl⟩ ⟨(Nat.le_of_ble_eq_true rfl), (Nat.le_of_ble_eq_true rfl)⟩ (lv_size hl) (Nat.le_of_ble_eq_true rfl) ⟨(Nat.le_of_ble_eq_true rfl), (Nat.le_of_ble_eq_true rfl)⟩ rfl dX7_refuse_1 (fun H locs hW => ?_)
  refine W.eq (g2 := F0 m 4 ls [.int x3]) rfl ?_
  refine lv_if_ne (tgt := 8) E.1 E.2.1 dX7_refuse_4 (by decide) (fun g => ?_) (fun g => ?_)
  · have h := ifn h g
    refine lv_aload_n E.1 E.2.1 dX7_refuse_8 rfl (lv_at hl 0 rfl) ?_
    obtain ⟨x6, σ5, c7, h⟩ := obn_r h
    refine c_V (As := []) (rest := []) E hW (m_X7_next c7) g1 rfl kw_1028 wv_X7_next yo_X7_next ⟨rfl, rfl⟩ ⟨(Nat.le_of_ble_eq_true rfl), (Nat.le_of_ble_eq_true rfl)⟩ (lv_size hl) (Nat.le_of_ble_eq_true rfl) ⟨(Nat.le_of_ble_eq_true rfl), (Nat.le_of_ble_eq_true rfl)⟩ rfl dX7_refuse_9 (fun H locs hW => ?_)
    refine W.eq (g2 := F0 m 12 ls [.int x6]) rfl ?_
    refine lv_pop E.1 E.2.1 dX7_refuse_12 rfl ?_
    refine lv_iload_n E.1 E.2.1 dX7_refuse_13 rfl (lv_at hl 1 rfl) ?_
    refine lv_if_ne (tgt := 27) E.1 E.2.1 dX7_refuse_14 (by decide) (fun g => ?_) (fun g => ?_)
    · have h := ifn h g
      exact e_v E hW hr hlk h dX7_refuse_27
    · have h := ifp h g
      refine lv_aload_n E.1 E.2.1 dX7_refuse_17 rfl (lv_at hl 0 rfl) ?_
      refine lv_bipush (v := (-5 : Int32)) E.1 E.2.1 dX7_refuse_18 (by decide) ?_
      refine lv_aload_n E.1 E.2.1 dX7_refuse_20 rfl (lv_at hl 0 rfl) ?_
      refine gf_X7_167 E hW g1 dX7_refuse_21 ?_
      obtain ⟨_r, σ8, c9, h⟩ := obn_r h
      refine c_V (As := [.int (-5 : Int32), .int (σ5.1 q0 4)]) (rest := []) E hW (m_X7_report c9) g1 rfl kw_1038 wv_X7_report yo_X7_report ⟨rfl, rfl⟩ ⟨(Nat.le_of_ble_eq_true rfl), (Nat.le_of_ble_eq_true rfl)⟩ (lv_size hl) (Nat.le_of_ble_eq_true rfl) ⟨(Nat.le_of_ble_eq_true rfl), (Nat.le_of_ble_eq_true rfl)⟩ rfl dX7_refuse_24 (fun H locs hW => ?_)
      refine W.eq (g2 := F0 m 27 ls []) rfl ?_
      exact e_v E hW hr hlk h dX7_refuse_27
  · have h := ifp h g
    exact e_v E hW hr hlk h dX7_refuse_7
set_option maxHeartbeats 4000000 in
set_option maxRecDepth 100000 in
theorem m_X7_open {l : Launch} {G : GP} {sz : Nat} {q0 : Nat} {a1 : Int32} {σ σ0 : St} {r0 : Unit} (h : f_X7_open q0 a1 σ = some (r0, σ0)) : Met l yX7_open [.code yX7_open cX7_open 2 none] ({ frames := 2, cells := 0, slots := 0, locals := 41 } : Room) (va_Pc [.ref (G.2.2.2 + q0), .int a1] (PreC G skR sz σ)) (QO (PoC G skR σ0) (Aw G.2.2.2 skR.1 sz) none) 0 0 (Aw G.2.2.2 skR.1 sz) := by
  refine mkMet (by decide +kernel) (Nat.le_of_ble_eq_true rfl) skR_ok ?_
  intro p e s m below meth c ls E hW hl hr hlk
  have hl : lv_has ls 2 [(0, .ref (G.2.2.2 + q0)), (1, .int a1)] := hl
  generalize Aw G.2.2.2 skR.1 s.heap.size = A0 at E hW ⊢
  generalize ([.ref (G.2.2.2 + q0), .int a1] : List Value).toArray = args
  unfold f_X7_open at h
  refine lv_aload_n E.1 E.2.1 dX7_open_0 rfl (lv_at hl 0 rfl) ?_
  obtain ⟨g1, h⟩ := gd_r h
  obtain ⟨x3, σ2, c4, h⟩ := obn_r h
  refine c_V (As := []) (rest := []) E hW (m_X7_isGood c4) g1 rfl kw_1024 wv_X7_isGood yo_X7_isGood ⟨rfl, rfl⟩ ⟨(Nat.le_of_ble_eq_true rfl), (Nat.le_of_ble_eq_true rfl)⟩ (lv_size hl) (Nat.le_of_ble_eq_true rfl) ⟨(Nat.le_of_ble_eq_true rfl), (Nat.le_of_ble_eq_true rfl)⟩ rfl dX7_open_1 (fun H locs hW => ?_)
  refine W.eq (g2 := F0 m 4 ls [.int x3]) rfl ?_
  refine lv_if_ne (tgt := 8) E.1 E.2.1 dX7_open_4 (by decide) (fun g => ?_) (fun g => ?_)
  · have h := ifn h g
    refine lv_aload_n E.1 E.2.1 dX7_open_8 rfl (lv_at hl 0 rfl) ?_
    obtain ⟨x6, σ5, c7, h⟩ := obn_r h
    refine c_V (As := []) (rest := []) E hW (m_X7_next c7) g1 rfl kw_1028 wv_X7_next yo_X7_next ⟨rfl, rfl⟩ ⟨(Nat.le_of_ble_eq_true rfl), (Nat.le_of_ble_eq_true rfl)⟩ (lv_size hl) (Nat.le_of_ble_eq_true rfl) ⟨(Nat.le_of_ble_eq_true rfl), (Nat.le_of_ble_eq_true rfl)⟩ rfl dX7_open_9 (fun H locs hW => ?_)
    refine W.eq (g2 := F0 m 12 ls [.int x6]) rfl ?_
    refine lv_iload_n E.1 E.2.1 dX7_open_12 rfl (lv_at hl 1 rfl) ?_
    obtain ⟨J10, eJ10, h⟩ := bnd_x h
    have hJ10 : ∀ (q9 : Nat) (σ8 : St) (H : Heap) (locs : List Loc) (ls : Array Slot), J10 q9 σ8 = some (r0, σ0) → Wo G skR A0 s σ8 H locs → lv_has ls 2 [(0, .ref (G.2.2.2 + q9))] → W p l e ({ frames := 2, cells := 0, slots := 0, locals := 41 } : Room) s m args below meth c H locs 0 0 (MQ below (QO (PoC G skR σ0) A0 none) args s 0 0 A0) (F0 m 47 ls []) := by
      intro q9 σ8 H locs ls h hW hl
      have h := jr2 eJ10 h
      refine lv_aload_n E.1 E.2.1 dX7_open_47 rfl (lv_at hl 0 rfl) ?_
      refine lv_dup E.1 E.2.1 dX7_open_48 rfl ?_
      obtain ⟨g11, h⟩ := gd_r h
      refine gf_X7_167 E hW g11 dX7_open_49 ?_
      refine lv_iconst (v := (1 : Int32)) E.1 E.2.1 dX7_open_52 (by decide) ?_
      refine lv_iadd E.1 E.2.1 dX7_open_53 ?_
      refine pf_X7_167 E hW g11 dX7_open_54 (fun σ12 H locs eσ12 hW => ?_)
      have h := bnd_r eσ12 h
      refine lv_aload_n E.1 E.2.1 dX7_open_57 rfl (lv_at hl 0 rfl) ?_
      refine lv_dup E.1 E.2.1 dX7_open_58 rfl ?_
      refine gf_X7_215 E hW g11 dX7_open_59 ?_
      refine lv_iconst (v := (1 : Int32)) E.1 E.2.1 dX7_open_62 (by decide) ?_
      refine lv_iadd E.1 E.2.1 dX7_open_63 ?_
      refine pf_X7_215 E hW g11 dX7_open_64 (fun σ13 H locs eσ13 hW => ?_)
      have h := bnd_r eσ13 h
      exact e_v E hW hr hlk h dX7_open_67
    refine lv_icmp_eq (tgt := 29) E.1 E.2.1 dX7_open_13 (by decide) (fun g => ?_) (fun g => ?_)
    · have h := ifp h g
      refine lv_aload_n E.1 E.2.1 dX7_open_29 rfl (lv_at hl 0 rfl) ?_
      refine gf_X7_215 E hW g1 dX7_open_30 ?_
      refine lv_iconst (v := (4 : Int32)) E.1 E.2.1 dX7_open_33 (by decide) ?_
      refine lv_icmp_ne (tgt := 47) E.1 E.2.1 dX7_open_34 (by decide) (fun g => ?_) (fun g => ?_)
      · have h := ifn h g
        exact hJ10 _ _ _ _ _ h hW (lv_sub hl [0] rfl)
      · have h := ifp h g
        refine lv_aload_n E.1 E.2.1 dX7_open_37 rfl (lv_at hl 0 rfl) ?_
        refine lv_bipush (v := (-6 : Int32)) E.1 E.2.1 dX7_open_38 (by decide) ?_
        refine lv_aload_n E.1 E.2.1 dX7_open_40 rfl (lv_at hl 0 rfl) ?_
        refine gf_X7_167 E hW g1 dX7_open_41 ?_
        obtain ⟨_r, σ14, c15, h⟩ := obn_r h
        refine c_V (As := [.int (-6 : Int32), .int (σ5.1 q0 4)]) (rest := []) E hW (m_X7_report c15) g1 rfl kw_1038 wv_X7_report yo_X7_report ⟨rfl, rfl⟩ ⟨(Nat.le_of_ble_eq_true rfl), (Nat.le_of_ble_eq_true rfl)⟩ (lv_size hl) (Nat.le_of_ble_eq_true rfl) ⟨(Nat.le_of_ble_eq_true rfl), (Nat.le_of_ble_eq_true rfl)⟩ rfl dX7_open_44 (fun H locs hW => ?_)
        refine W.eq (g2 := F0 m 47 ls []) rfl ?_
        exact hJ10 _ _ _ _ _ h hW (lv_sub hl [0] rfl)
    · have h := ifn h g
      refine lv_aload_n E.1 E.2.1 dX7_open_16 rfl (lv_at hl 0 rfl) ?_
      refine lv_bipush (v := (-2 : Int32)) E.1 E.2.1 dX7_open_17 (by decide) ?_
      refine lv_aload_n E.1 E.2.1 dX7_open_19 rfl (lv_at hl 0 rfl) ?_
      refine gf_X7_167 E hW g1 dX7_open_20 ?_
      obtain ⟨_r, σ16, c17, h⟩ := obn_r h
      refine c_V (As := [.int (-2 : Int32), .int (σ5.1 q0 4)]) (rest := []) E hW (m_X7_report c17) g1 rfl kw_1038 wv_X7_report yo_X7_report ⟨rfl, rfl⟩ ⟨(Nat.le_of_ble_eq_true rfl), (Nat.le_of_ble_eq_true rfl)⟩ (lv_size hl) (Nat.le_of_ble_eq_true rfl) ⟨(Nat.le_of_ble_eq_true rfl), (Nat.le_of_ble_eq_true rfl)⟩ rfl dX7_open_23 (fun H locs hW => ?_)
      refine W.eq (g2 := F0 m 26 ls []) rfl ?_
      refine lv_goto (tgt := 47) E.1 E.2.1 dX7_open_26 (by decide) ?_
      exact hJ10 _ _ _ _ _ h hW (lv_sub hl [0] rfl)
  · have h := ifp h g
    exact e_v E hW hr hlk h dX7_open_7
set_option maxHeartbeats 4000000 in
set_option maxRecDepth 100000 in
theorem m_X7_close {l : Launch} {G : GP} {sz : Nat} {q0 : Nat} {a1 : Int32} {σ σ0 : St} {r0 : Unit} (h : f_X7_close q0 a1 σ = some (r0, σ0)) : Met l yX7_close [.code yX7_close cX7_close 2 none] ({ frames := 3, cells := 0, slots := 0, locals := 62 } : Room) (va_Pc [.ref (G.2.2.2 + q0), .int a1] (PreC G skR sz σ)) (QO (PoC G skR σ0) (Aw G.2.2.2 skR.1 sz) none) 0 0 (Aw G.2.2.2 skR.1 sz) := by
  refine mkMet (by decide +kernel) (Nat.le_of_ble_eq_true rfl) skR_ok ?_
  intro p e s m below meth c ls E hW hl hr hlk
  have hl : lv_has ls 2 [(0, .ref (G.2.2.2 + q0)), (1, .int a1)] := hl
  generalize Aw G.2.2.2 skR.1 s.heap.size = A0 at E hW ⊢
  generalize ([.ref (G.2.2.2 + q0), .int a1] : List Value).toArray = args
  unfold f_X7_close at h
  refine lv_aload_n E.1 E.2.1 dX7_close_0 rfl (lv_at hl 0 rfl) ?_
  refine lv_iload_n E.1 E.2.1 dX7_close_1 rfl (lv_at hl 1 rfl) ?_
  obtain ⟨g1, h⟩ := gd_r h
  obtain ⟨_r, σ2, c3, h⟩ := obn_r h
  refine c_V (As := [.int a1]) (rest := []) E hW (m_X7_expect c3) g1 rfl kw_1042 wv_X7_expect yo_X7_expect ⟨rfl, rfl⟩ ⟨(Nat.le_of_ble_eq_true rfl), (Nat.le_of_ble_eq_true rfl)⟩ (lv_size hl) (Nat.le_of_ble_eq_true rfl) ⟨(Nat.le_of_ble_eq_true rfl), (Nat.le_of_ble_eq_true rfl)⟩ rfl dX7_close_2 (fun H locs hW => ?_)
  refine W.eq (g2 := F0 m 5 ls []) rfl ?_
  refine lv_aload_n E.1 E.2.1 dX7_close_5 rfl (lv_at hl 0 rfl) ?_
  refine lv_dup E.1 E.2.1 dX7_close_6 rfl ?_
  refine gf_X7_215 E hW g1 dX7_close_7 ?_
  refine lv_iconst (v := (1 : Int32)) E.1 E.2.1 dX7_close_10 (by decide) ?_
  refine lv_isub E.1 E.2.1 dX7_close_11 ?_
  refine pf_X7_215 E hW g1 dX7_close_12 (fun σ4 H locs eσ4 hW => ?_)
  have h := bnd_r eσ4 h
  exact e_v E hW hr hlk h dX7_close_15
set_option maxHeartbeats 4000000 in
set_option maxRecDepth 100000 in
theorem m_X7_takeName {l : Launch} {G : GP} {sz : Nat} {q0 : Nat} {σ σ0 : St} {r0 : Int32} (h : f_X7_takeName q0 σ = some (r0, σ0)) : Met l yX7_takeName [.code yX7_takeName cX7_takeName 2 (some .int)] ({ frames := 2, cells := 0, slots := 0, locals := 41 } : Room) (va_Pc [.ref (G.2.2.2 + q0)] (PreC G skR sz σ)) (QO (PoC G skR σ0) (Aw G.2.2.2 skR.1 sz) (some (.int r0))) 0 0 (Aw G.2.2.2 skR.1 sz) := by
  refine mkMet (by decide +kernel) (Nat.le_of_ble_eq_true rfl) skR_ok ?_
  intro p e s m below meth c ls E hW hl hr hlk
  have hl : lv_has ls 2 [(0, .ref (G.2.2.2 + q0))] := hl
  generalize Aw G.2.2.2 skR.1 s.heap.size = A0 at E hW ⊢
  generalize ([.ref (G.2.2.2 + q0)] : List Value).toArray = args
  unfold f_X7_takeName at h
  refine lv_aload_n E.1 E.2.1 dX7_takeName_0 rfl (lv_at hl 0 rfl) ?_
  obtain ⟨g1, h⟩ := gd_r h
  obtain ⟨x3, σ2, c4, h⟩ := obn_r h
  refine c_V (As := []) (rest := []) E hW (m_X7_next c4) g1 rfl kw_1028 wv_X7_next yo_X7_next ⟨rfl, rfl⟩ ⟨(Nat.le_of_ble_eq_true rfl), (Nat.le_of_ble_eq_true rfl)⟩ (lv_size hl) (Nat.le_of_ble_eq_true rfl) ⟨(Nat.le_of_ble_eq_true rfl), (Nat.le_of_ble_eq_true rfl)⟩ rfl dX7_takeName_1 (fun H locs hW => ?_)
  refine W.eq (g2 := F0 m 4 ls [.int x3]) rfl ?_
  refine lv_istore_n (lv' := [(1, .int x3), (0, .ref (G.2.2.2 + q0))]) E.1 E.2.1 dX7_takeName_4 rfl hl (by decide) rfl (fun ls hl => ?_)
  refine lv_iload_n E.1 E.2.1 dX7_takeName_5 rfl (lv_at hl 0 rfl) ?_
  refine lv_bipush (v := (97 : Int32)) E.1 E.2.1 dX7_takeName_6 (by decide) ?_
  refine lv_bipush (v := (104 : Int32)) E.1 E.2.1 dX7_takeName_8 (by decide) ?_
  obtain ⟨x6, σ5, c7, h⟩ := obn_r h
  refine c_S (As := [.int x3, .int (97 : Int32), .int (104 : Int32)]) (rest := []) E hW (m_X7_in c7) kw_1012 ws_X7_in yo_X7_in ⟨rfl, rfl⟩ ⟨(Nat.le_of_ble_eq_true rfl), (Nat.le_of_ble_eq_true rfl)⟩ (lv_size hl) (Nat.le_of_ble_eq_true rfl) ⟨(Nat.le_of_ble_eq_true rfl), (Nat.le_of_ble_eq_true rfl)⟩ rfl dX7_takeName_10 (fun H locs hW => ?_)
  refine W.eq (g2 := F0 m 13 ls [.int x6]) rfl ?_
  refine lv_if_eq (tgt := 36) E.1 E.2.1 dX7_takeName_13 (by decide) (fun g => ?_) (fun g => ?_)
  · have h := ifp h g
    refine lv_iconst (v := (-1 : Int32)) E.1 E.2.1 dX7_takeName_36 (by decide) ?_
    exact e_i E hW hr hlk h dX7_takeName_37
  · have h := ifn h g
    refine lv_aload_n E.1 E.2.1 dX7_takeName_16 rfl (lv_at hl 1 rfl) ?_
    refine lv_aload_n E.1 E.2.1 dX7_takeName_17 rfl (lv_at hl 1 rfl) ?_
    refine gf_X7_167 E hW g1 dX7_takeName_18 ?_
    refine lv_iconst (v := (1 : Int32)) E.1 E.2.1 dX7_takeName_21 (by decide) ?_
    refine lv_iadd E.1 E.2.1 dX7_takeName_22 ?_
    obtain ⟨x9, σ8, c10, h⟩ := obn_r h
    refine c_V (As := [.int ((σ5.1 q0 4) + (1 : Int32))]) (rest := []) E hW (m_X7_byteAt c10) g1 rfl kw_1032 wv_X7_byteAt yo_X7_byteAt ⟨rfl, rfl⟩ ⟨(Nat.le_of_ble_eq_true rfl), (Nat.le_of_ble_eq_true rfl)⟩ (lv_size hl) (Nat.le_of_ble_eq_true rfl) ⟨(Nat.le_of_ble_eq_true rfl), (Nat.le_of_ble_eq_true rfl)⟩ rfl dX7_takeName_23 (fun H locs hW => ?_)
    refine W.eq (g2 := F0 m 26 ls [.int x9]) rfl ?_
    refine lv_bipush (v := (97 : Int32)) E.1 E.2.1 dX7_takeName_26 (by decide) ?_
    refine lv_bipush (v := (122 : Int32)) E.1 E.2.1 dX7_takeName_28 (by decide) ?_
    obtain ⟨x12, σ11, c13, h⟩ := obn_r h
    refine c_S (As := [.int x9, .int (97 : Int32), .int (122 : Int32)]) (rest := []) E hW (m_X7_in c13) kw_1012 ws_X7_in yo_X7_in ⟨rfl, rfl⟩ ⟨(Nat.le_of_ble_eq_true rfl), (Nat.le_of_ble_eq_true rfl)⟩ (lv_size hl) (Nat.le_of_ble_eq_true rfl) ⟨(Nat.le_of_ble_eq_true rfl), (Nat.le_of_ble_eq_true rfl)⟩ rfl dX7_takeName_30 (fun H locs hW => ?_)
    refine W.eq (g2 := F0 m 33 ls [.int x12]) rfl ?_
    refine lv_if_eq (tgt := 38) E.1 E.2.1 dX7_takeName_33 (by decide) (fun g => ?_) (fun g => ?_)
    · have h := ifp h g
      refine lv_aload_n E.1 E.2.1 dX7_takeName_38 rfl (lv_at hl 1 rfl) ?_
      refine lv_dup E.1 E.2.1 dX7_takeName_39 rfl ?_
      refine gf_X7_167 E hW g1 dX7_takeName_40 ?_
      refine lv_iconst (v := (1 : Int32)) E.1 E.2.1 dX7_takeName_43 (by decide) ?_
      refine lv_iadd E.1 E.2.1 dX7_takeName_44 ?_
      refine pf_X7_167 E hW g1 dX7_takeName_45 (fun σ14 H locs eσ14 hW => ?_)
      have h := bnd_r eσ14 h
      refine lv_iload_n E.1 E.2.1 dX7_takeName_48 rfl (lv_at hl 0 rfl) ?_
      refine lv_bipush (v := (97 : Int32)) E.1 E.2.1 dX7_takeName_49 (by decide) ?_
      refine lv_isub E.1 E.2.1 dX7_takeName_51 ?_
      exact e_i E hW hr hlk h dX7_takeName_52
    · have h := ifn h g
      refine lv_iconst (v := (-1 : Int32)) E.1 E.2.1 dX7_takeName_36 (by decide) ?_
      exact e_i E hW hr hlk h dX7_takeName_37
set_option maxHeartbeats 4000000 in
set_option maxRecDepth 100000 in
theorem m_X7_readIntegral {rc : Nat → Int32 → St → Option (Unit × St)} {rf rl : Nat} {l : Launch} {G : GP} {sz : Nat} {q0 : Nat} {a1 : Int32} {a2 : Int32} {σ σ0 : St} {r0 : Unit} (hrc : ∀ {sz q : Nat} {a0 : Int32} {σ σ0 : St} {r0 : Unit}, rc q a0 σ = some (r0, σ0) → Met l yX7_sum [.code yX7_sum cX7_sum 3 none] ({ frames := rf, cells := 0, slots := 0, locals := rl } : Room) (va_Pc [.ref (G.2.2.2 + q), .int a0] (PreC G skR sz σ)) (QO (PoC G skR σ0) (Aw G.2.2.2 skR.1 sz) none) 0 0 (Aw G.2.2.2 skR.1 sz)) (h : f_X7_readIntegral rc q0 a1 a2 σ = some (r0, σ0)) : Met l yX7_readIntegral [.code yX7_readIntegral cX7_readIntegral 3 none] ({ frames := rf + 4, cells := 0, slots := 0, locals := rl + 96 } : Room) (va_Pc [.ref (G.2.2.2 + q0), .int a1, .int a2] (PreC G skR sz σ)) (QO (PoC G skR σ0) (Aw G.2.2.2 skR.1 sz) none) 0 0 (Aw G.2.2.2 skR.1 sz) := by
  refine mkMet (by decide +kernel) (Nat.le_of_ble_eq_true rfl) skR_ok ?_
  intro p e s m below meth c ls E hW hl hr hlk
  have hl : lv_has ls 3 [(0, .ref (G.2.2.2 + q0)), (1, .int a1), (2, .int a2)] := hl
  generalize Aw G.2.2.2 skR.1 s.heap.size = A0 at E hW ⊢
  generalize ([.ref (G.2.2.2 + q0), .int a1, .int a2] : List Value).toArray = args
  unfold f_X7_readIntegral at h
  refine lv_aload_n E.1 E.2.1 dX7_readIntegral_0 rfl (lv_at hl 0 rfl) ?_
  refine lv_bipush (v := (40 : Int32)) E.1 E.2.1 dX7_readIntegral_1 (by decide) ?_
  obtain ⟨g1, h⟩ := gd_r h
  obtain ⟨_r, σ2, c3, h⟩ := obn_r h
  refine c_V (As := [.int (40 : Int32)]) (rest := []) E hW (m_X7_open c3) g1 rfl kw_1081 wv_X7_open yo_X7_open ⟨rfl, rfl⟩ ⟨by dsimp only; omega, by dsimp only; omega⟩ (lv_size hl) (Nat.le_of_ble_eq_true rfl) ⟨(Nat.le_of_ble_eq_true rfl), (Nat.le_of_ble_eq_true rfl)⟩ rfl dX7_readIntegral_3 (fun H locs hW => ?_)
  refine W.eq (g2 := F0 m 6 ls []) rfl ?_
  refine lv_aload_n E.1 E.2.1 dX7_readIntegral_6 rfl (lv_at hl 0 rfl) ?_
  refine lv_iload_n E.1 E.2.1 dX7_readIntegral_7 rfl (lv_at hl 1 rfl) ?_
  refine lv_iconst (v := (1 : Int32)) E.1 E.2.1 dX7_readIntegral_8 (by decide) ?_
  refine lv_iadd E.1 E.2.1 dX7_readIntegral_9 ?_
  obtain ⟨_r, σ4, c5, h⟩ := obn_r h
  refine c_V (As := [.int (a1 + (1 : Int32))]) (rest := []) E hW (hrc c5) g1 rfl kw_1054 wv_X7_sum yo_X7_sum ⟨rfl, rfl⟩ ⟨by dsimp only; omega, by dsimp only; omega⟩ (lv_size hl) (Nat.le_of_ble_eq_true rfl) ⟨(Nat.le_of_ble_eq_true rfl), (Nat.le_of_ble_eq_true rfl)⟩ rfl dX7_readIntegral_10 (fun H locs hW => ?_)
  refine W.eq (g2 := F0 m 13 ls []) rfl ?_
  refine lv_aload_n E.1 E.2.1 dX7_readIntegral_13 rfl (lv_at hl 0 rfl) ?_
  refine lv_bipush (v := (41 : Int32)) E.1 E.2.1 dX7_readIntegral_14 (by decide) ?_
  obtain ⟨_r, σ6, c7, h⟩ := obn_r h
  refine c_V (As := [.int (41 : Int32)]) (rest := []) E hW (m_X7_close c7) g1 rfl kw_1085 wv_X7_close yo_X7_close ⟨rfl, rfl⟩ ⟨by dsimp only; omega, by dsimp only; omega⟩ (lv_size hl) (Nat.le_of_ble_eq_true rfl) ⟨(Nat.le_of_ble_eq_true rfl), (Nat.le_of_ble_eq_true rfl)⟩ rfl dX7_readIntegral_16 (fun H locs hW => ?_)
  refine W.eq (g2 := F0 m 19 ls []) rfl ?_
  refine lv_aload_n E.1 E.2.1 dX7_readIntegral_19 rfl (lv_at hl 0 rfl) ?_
  obtain ⟨x9, σ8, c10, h⟩ := obn_r h
  refine c_V (As := []) (rest := []) E hW (m_X7_isGood c10) g1 rfl kw_1024 wv_X7_isGood yo_X7_isGood ⟨rfl, rfl⟩ ⟨by dsimp only; omega, by dsimp only; omega⟩ (lv_size hl) (Nat.le_of_ble_eq_true rfl) ⟨(Nat.le_of_ble_eq_true rfl), (Nat.le_of_ble_eq_true rfl)⟩ rfl dX7_readIntegral_20 (fun H locs hW => ?_)
  refine W.eq (g2 := F0 m 23 ls [.int x9]) rfl ?_
  refine lv_if_eq (tgt := 49) E.1 E.2.1 dX7_readIntegral_23 (by decide) (fun g => ?_) (fun g => ?_)
  · have h := ifp h g
    exact e_v E hW hr hlk h dX7_readIntegral_49
  · have h := ifn h g
    refine lv_aload_n E.1 E.2.1 dX7_readIntegral_26 rfl (lv_at hl 0 rfl) ?_
    refine lv_aload_n E.1 E.2.1 dX7_readIntegral_27 rfl (lv_at hl 0 rfl) ?_
    refine lv_aload_n E.1 E.2.1 dX7_readIntegral_28 rfl (lv_at hl 0 rfl) ?_
    refine gf_X7_46 E hW g1 dX7_readIntegral_29 ?_
    refine lv_iload_n E.1 E.2.1 dX7_readIntegral_32 rfl (lv_at hl 1 rfl) ?_
    refine lv_iconst (v := (1 : Int32)) E.1 E.2.1 dX7_readIntegral_33 (by decide) ?_
    refine lv_iadd E.1 E.2.1 dX7_readIntegral_34 ?_
    obtain ⟨g11, h⟩ := gd_r h
    refine r_aald (t := 3) (ty := .array .long) E hW (pr_eq g11.1) g11.2 rfl rfl (by decide) dX7_readIntegral_35 ?_
    refine lv_iload_n E.1 E.2.1 dX7_readIntegral_36 rfl (lv_at hl 2 rfl) ?_
    refine lv_aload_n E.1 E.2.1 dX7_readIntegral_37 rfl (lv_at hl 0 rfl) ?_
    refine gf_X7_52 E hW g1 dX7_readIntegral_38 ?_
    refine lv_iload_n E.1 E.2.1 dX7_readIntegral_41 rfl (lv_at hl 1 rfl) ?_
    obtain ⟨g12, h⟩ := gd_r h
    refine r_aald (t := 3) (ty := .array .long) E hW (pr_eq g12.1) g12.2 rfl rfl (by decide) dX7_readIntegral_42 ?_
    obtain ⟨x14, σ13, c15, h⟩ := obn_r h
    refine c_V (As := [.ref (G.2.2.2 + (rR (rR q0 18) (a1 + (1 : Int32)).toNatClampNeg)), .int a2, .ref (G.2.2.2 + (rR (rR q0 20) a1.toNatClampNeg))]) (rest := [.ref (G.2.2.2 + q0)]) E hW (m_X7_integralOf c15) g1 rfl kw_1103 wv_X7_integralOf yo_X7_integralOf ⟨rfl, rfl⟩ ⟨by dsimp only; omega, by dsimp only; omega⟩ (lv_size hl) (Nat.le_of_ble_eq_true rfl) ⟨(Nat.le_of_ble_eq_true rfl), (Nat.le_of_ble_eq_true rfl)⟩ rfl dX7_readIntegral_43 (fun H locs hW => ?_)
    refine W.eq (g2 := F0 m 46 ls [.int x14, .ref (G.2.2.2 + q0)]) rfl ?_
    obtain ⟨_r, σ16, c17, h⟩ := obn_r h
    refine c_V (As := [.int x14]) (rest := []) E hW (m_X7_refuse c17) g1 rfl kw_1136 wv_X7_refuse yo_X7_refuse ⟨rfl, rfl⟩ ⟨by dsimp only; omega, by dsimp only; omega⟩ (lv_size hl) (Nat.le_of_ble_eq_true rfl) ⟨(Nat.le_of_ble_eq_true rfl), (Nat.le_of_ble_eq_true rfl)⟩ rfl dX7_readIntegral_46 (fun H locs hW => ?_)
    refine W.eq (g2 := F0 m 49 ls []) rfl ?_
    exact e_v E hW hr hlk h dX7_readIntegral_49
set_option maxHeartbeats 4000000 in
set_option maxRecDepth 100000 in
theorem m_X7_readNamed {rc : Nat → Int32 → St → Option (Unit × St)} {rf rl : Nat} {l : Launch} {G : GP} {sz : Nat} {q0 : Nat} {a1 : Int32} {a2 : Int32} {a3 : Int32} {σ σ0 : St} {r0 : Unit} (hrc : ∀ {sz q : Nat} {a0 : Int32} {σ σ0 : St} {r0 : Unit}, rc q a0 σ = some (r0, σ0) → Met l yX7_sum [.code yX7_sum cX7_sum 3 none] ({ frames := rf, cells := 0, slots := 0, locals := rl } : Room) (va_Pc [.ref (G.2.2.2 + q), .int a0] (PreC G skR sz σ)) (QO (PoC G skR σ0) (Aw G.2.2.2 skR.1 sz) none) 0 0 (Aw G.2.2.2 skR.1 sz)) (h : f_X7_readNamed rc q0 a1 a2 a3 σ = some (r0, σ0)) : Met l yX7_readNamed [.code yX7_readNamed cX7_readNamed 4 none] ({ frames := rf + 6, cells := 0, slots := 0, locals := rl + 158 } : Room) (va_Pc [.ref (G.2.2.2 + q0), .int a1, .int a2, .int a3] (PreC G skR sz σ)) (QO (PoC G skR σ0) (Aw G.2.2.2 skR.1 sz) none) 0 0 (Aw G.2.2.2 skR.1 sz) := by
  refine mkMet (by decide +kernel) (Nat.le_of_ble_eq_true rfl) skR_ok ?_
  intro p e s m below meth c ls E hW hl hr hlk
  have hl : lv_has ls 4 [(0, .ref (G.2.2.2 + q0)), (1, .int a1), (2, .int a2), (3, .int a3)] := hl
  generalize Aw G.2.2.2 skR.1 s.heap.size = A0 at E hW ⊢
  generalize ([.ref (G.2.2.2 + q0), .int a1, .int a2, .int a3] : List Value).toArray = args
  unfold f_X7_readNamed at h
  refine lv_aload_n E.1 E.2.1 dX7_readNamed_0 rfl (lv_at hl 0 rfl) ?_
  obtain ⟨g1, h⟩ := gd_r h
  refine gf_X7_20 E hW g1 dX7_readNamed_1 ?_
  refine lv_iload_n E.1 E.2.1 dX7_readNamed_4 rfl (lv_at hl 3 rfl) ?_
  obtain ⟨x3, σ2, c4, h⟩ := obn_r h
  refine c_S (As := [.ref (G.2.2.2 + (rR q0 9)), .int a3]) (rest := []) E hW (m_X7_isDefined c4) kw_1145 ws_X7_isDefined yo_X7_isDefined ⟨rfl, rfl⟩ ⟨by dsimp only; omega, by dsimp only; omega⟩ (lv_size hl) (Nat.le_of_ble_eq_true rfl) ⟨(Nat.le_of_ble_eq_true rfl), (Nat.le_of_ble_eq_true rfl)⟩ rfl dX7_readNamed_5 (fun H locs hW => ?_)
  refine W.eq (g2 := F0 m 8 ls [.int x3]) rfl ?_
  obtain ⟨J9, eJ9, h⟩ := bnd_x h
  have hJ9 : ∀ (q6 : Nat) (x7 : Int32) (x8 : Int32) (σ5 : St) (H : Heap) (locs : List Loc) (ls : Array Slot), J9 q6 x7 x8 σ5 = some (r0, σ0) → Wo G skR A0 s σ5 H locs → lv_has ls 4 [(0, .ref (G.2.2.2 + q6)), (1, .int x7), (3, .int x8)] → W p l e ({ frames := rf + 6, cells := 0, slots := 0, locals := rl + 158 } : Room) s m args below meth c H locs 0 0 (MQ below (QO (PoC G skR σ0) A0 none) args s 0 0 A0) (F0 m 18 ls []) := by
    intro q6 x7 x8 σ5 H locs ls h hW hl
    have h := jr4 eJ9 h
    refine lv_aload_n E.1 E.2.1 dX7_readNamed_18 rfl (lv_at hl 0 rfl) ?_
    obtain ⟨g10, h⟩ := gd_r h
    obtain ⟨x12, σ11, c13, h⟩ := obn_r h
    refine c_V (As := []) (rest := []) E hW (m_X7_isGood c13) g10 rfl kw_1024 wv_X7_isGood yo_X7_isGood ⟨rfl, rfl⟩ ⟨by dsimp only; omega, by dsimp only; omega⟩ (lv_size hl) (Nat.le_of_ble_eq_true rfl) ⟨(Nat.le_of_ble_eq_true rfl), (Nat.le_of_ble_eq_true rfl)⟩ rfl dX7_readNamed_19 (fun H locs hW => ?_)
    refine W.eq (g2 := F0 m 22 ls [.int x12]) rfl ?_
    refine lv_if_ne (tgt := 26) E.1 E.2.1 dX7_readNamed_22 (by decide) (fun g => ?_) (fun g => ?_)
    · have h := ifn h g
      refine lv_aload_n E.1 E.2.1 dX7_readNamed_26 rfl (lv_at hl 0 rfl) ?_
      obtain ⟨x15, σ14, c16, h⟩ := obn_r h
      refine c_V (As := []) (rest := []) E hW (m_X7_next c16) g10 rfl kw_1028 wv_X7_next yo_X7_next ⟨rfl, rfl⟩ ⟨by dsimp only; omega, by dsimp only; omega⟩ (lv_size hl) (Nat.le_of_ble_eq_true rfl) ⟨(Nat.le_of_ble_eq_true rfl), (Nat.le_of_ble_eq_true rfl)⟩ rfl dX7_readNamed_27 (fun H locs hW => ?_)
      refine W.eq (g2 := F0 m 30 ls [.int x15]) rfl ?_
      refine lv_bipush (v := (91 : Int32)) E.1 E.2.1 dX7_readNamed_30 (by decide) ?_
      refine lv_icmp_eq (tgt := 50) E.1 E.2.1 dX7_readNamed_32 (by decide) (fun g => ?_) (fun g => ?_)
      · have h := ifp h g
        refine lv_aload_n E.1 E.2.1 dX7_readNamed_50 rfl (lv_at hl 0 rfl) ?_
        refine lv_bipush (v := (91 : Int32)) E.1 E.2.1 dX7_readNamed_51 (by decide) ?_
        obtain ⟨_r, σ17, c18, h⟩ := obn_r h
        refine c_V (As := [.int (91 : Int32)]) (rest := []) E hW (m_X7_open c18) g10 rfl kw_1081 wv_X7_open yo_X7_open ⟨rfl, rfl⟩ ⟨by dsimp only; omega, by dsimp only; omega⟩ (lv_size hl) (Nat.le_of_ble_eq_true rfl) ⟨(Nat.le_of_ble_eq_true rfl), (Nat.le_of_ble_eq_true rfl)⟩ rfl dX7_readNamed_53 (fun H locs hW => ?_)
        refine W.eq (g2 := F0 m 56 ls []) rfl ?_
        refine lv_aload_n E.1 E.2.1 dX7_readNamed_56 rfl (lv_at hl 0 rfl) ?_
        refine lv_iload_n E.1 E.2.1 dX7_readNamed_57 rfl (lv_at hl 1 rfl) ?_
        refine lv_iconst (v := (1 : Int32)) E.1 E.2.1 dX7_readNamed_58 (by decide) ?_
        refine lv_iadd E.1 E.2.1 dX7_readNamed_59 ?_
        obtain ⟨_r, σ19, c20, h⟩ := obn_r h
        refine c_V (As := [.int (x7 + (1 : Int32))]) (rest := []) E hW (hrc c20) g10 rfl kw_1054 wv_X7_sum yo_X7_sum ⟨rfl, rfl⟩ ⟨by dsimp only; omega, by dsimp only; omega⟩ (lv_size hl) (Nat.le_of_ble_eq_true rfl) ⟨(Nat.le_of_ble_eq_true rfl), (Nat.le_of_ble_eq_true rfl)⟩ rfl dX7_readNamed_60 (fun H locs hW => ?_)
        refine W.eq (g2 := F0 m 63 ls []) rfl ?_
        refine lv_aload_n E.1 E.2.1 dX7_readNamed_63 rfl (lv_at hl 0 rfl) ?_
        refine gf_X7_46 E hW g10 dX7_readNamed_64 ?_
        refine lv_iload_n E.1 E.2.1 dX7_readNamed_67 rfl (lv_at hl 1 rfl) ?_
        refine lv_iconst (v := (1 : Int32)) E.1 E.2.1 dX7_readNamed_68 (by decide) ?_
        refine lv_iadd E.1 E.2.1 dX7_readNamed_69 ?_
        obtain ⟨g21, h⟩ := gd_r h
        refine r_aald (t := 3) (ty := .array .long) E hW (pr_eq g21.1) g21.2 rfl rfl (by decide) dX7_readNamed_70 ?_
        refine lv_aload_n E.1 E.2.1 dX7_readNamed_71 rfl (lv_at hl 0 rfl) ?_
        refine gf_X7_55 E hW g10 dX7_readNamed_72 ?_
        refine lv_iload_n E.1 E.2.1 dX7_readNamed_75 rfl (lv_at hl 1 rfl) ?_
        obtain ⟨g22, h⟩ := gd_r h
        refine r_aald (t := 3) (ty := .array .long) E hW (pr_eq g22.1) g22.2 rfl rfl (by decide) dX7_readNamed_76 ?_
        obtain ⟨_r, σ23, c24, h⟩ := obn_r h
        refine c_S (As := [.ref (G.2.2.2 + (rR (rR q6 18) (x7 + (1 : Int32)).toNatClampNeg)), .ref (G.2.2.2 + (rR (rR q6 21) x7.toNatClampNeg))]) (rest := []) E hW (m_X7_copyRow c24) kw_1089 ws_X7_copyRow yo_X7_copyRow ⟨rfl, rfl⟩ ⟨by dsimp only; omega, by dsimp only; omega⟩ (lv_size hl) (Nat.le_of_ble_eq_true rfl) ⟨(Nat.le_of_ble_eq_true rfl), (Nat.le_of_ble_eq_true rfl)⟩ rfl dX7_readNamed_77 (fun H locs hW => ?_)
        refine W.eq (g2 := F0 m 80 ls []) rfl ?_
        refine lv_aload_n E.1 E.2.1 dX7_readNamed_80 rfl (lv_at hl 0 rfl) ?_
        refine lv_bipush (v := (44 : Int32)) E.1 E.2.1 dX7_readNamed_81 (by decide) ?_
        obtain ⟨_r, σ25, c26, h⟩ := obn_r h
        refine c_V (As := [.int (44 : Int32)]) (rest := []) E hW (m_X7_expect c26) g10 rfl kw_1042 wv_X7_expect yo_X7_expect ⟨rfl, rfl⟩ ⟨by dsimp only; omega, by dsimp only; omega⟩ (lv_size hl) (Nat.le_of_ble_eq_true rfl) ⟨(Nat.le_of_ble_eq_true rfl), (Nat.le_of_ble_eq_true rfl)⟩ rfl dX7_readNamed_83 (fun H locs hW => ?_)
        refine W.eq (g2 := F0 m 86 ls []) rfl ?_
        refine lv_aload_n E.1 E.2.1 dX7_readNamed_86 rfl (lv_at hl 0 rfl) ?_
        refine lv_iload_n E.1 E.2.1 dX7_readNamed_87 rfl (lv_at hl 1 rfl) ?_
        refine lv_iconst (v := (1 : Int32)) E.1 E.2.1 dX7_readNamed_88 (by decide) ?_
        refine lv_iadd E.1 E.2.1 dX7_readNamed_89 ?_
        obtain ⟨_r, σ27, c28, h⟩ := obn_r h
        refine c_V (As := [.int (x7 + (1 : Int32))]) (rest := []) E hW (hrc c28) g10 rfl kw_1054 wv_X7_sum yo_X7_sum ⟨rfl, rfl⟩ ⟨by dsimp only; omega, by dsimp only; omega⟩ (lv_size hl) (Nat.le_of_ble_eq_true rfl) ⟨(Nat.le_of_ble_eq_true rfl), (Nat.le_of_ble_eq_true rfl)⟩ rfl dX7_readNamed_90 (fun H locs hW => ?_)
        refine W.eq (g2 := F0 m 93 ls []) rfl ?_
        refine lv_aload_n E.1 E.2.1 dX7_readNamed_93 rfl (lv_at hl 0 rfl) ?_
        refine lv_bipush (v := (93 : Int32)) E.1 E.2.1 dX7_readNamed_94 (by decide) ?_
        obtain ⟨_r, σ29, c30, h⟩ := obn_r h
        refine c_V (As := [.int (93 : Int32)]) (rest := []) E hW (m_X7_close c30) g10 rfl kw_1085 wv_X7_close yo_X7_close ⟨rfl, rfl⟩ ⟨by dsimp only; omega, by dsimp only; omega⟩ (lv_size hl) (Nat.le_of_ble_eq_true rfl) ⟨(Nat.le_of_ble_eq_true rfl), (Nat.le_of_ble_eq_true rfl)⟩ rfl dX7_readNamed_96 (fun H locs hW => ?_)
        refine W.eq (g2 := F0 m 99 ls []) rfl ?_
        refine lv_aload_n E.1 E.2.1 dX7_readNamed_99 rfl (lv_at hl 0 rfl) ?_
        obtain ⟨x32, σ31, c33, h⟩ := obn_r h
        refine c_V (As := []) (rest := []) E hW (m_X7_isGood c33) g10 rfl kw_1024 wv_X7_isGood yo_X7_isGood ⟨rfl, rfl⟩ ⟨by dsimp only; omega, by dsimp only; omega⟩ (lv_size hl) (Nat.le_of_ble_eq_true rfl) ⟨(Nat.le_of_ble_eq_true rfl), (Nat.le_of_ble_eq_true rfl)⟩ rfl dX7_readNamed_100 (fun H locs hW => ?_)
        refine W.eq (g2 := F0 m 103 ls [.int x32]) rfl ?_
        refine lv_if_ne (tgt := 107) E.1 E.2.1 dX7_readNamed_103 (by decide) (fun g => ?_) (fun g => ?_)
        · have h := ifn h g
          refine lv_aload_n E.1 E.2.1 dX7_readNamed_107 rfl (lv_at hl 0 rfl) ?_
          refine gf_X7_20 E hW g10 dX7_readNamed_108 ?_
          refine lv_iload_n E.1 E.2.1 dX7_readNamed_111 rfl (lv_at hl 2 rfl) ?_
          refine lv_aload_n E.1 E.2.1 dX7_readNamed_112 rfl (lv_at hl 0 rfl) ?_
          refine gf_X7_58 E hW g10 dX7_readNamed_113 ?_
          obtain ⟨_r, σ34, c35, h⟩ := obn_r h
          refine c_S (As := [.ref (G.2.2.2 + (rR q6 9)), .int x8, .ref (G.2.2.2 + (rR q6 22))]) (rest := []) E hW (m_X7_take c35) kw_1148 ws_X7_take yo_X7_take ⟨rfl, rfl⟩ ⟨by dsimp only; omega, by dsimp only; omega⟩ (lv_size hl) (Nat.le_of_ble_eq_true rfl) ⟨(Nat.le_of_ble_eq_true rfl), (Nat.le_of_ble_eq_true rfl)⟩ rfl dX7_readNamed_116 (fun H locs hW => ?_)
          refine W.eq (g2 := F0 m 119 ls []) rfl ?_
          refine lv_aload_n E.1 E.2.1 dX7_readNamed_119 rfl (lv_at hl 0 rfl) ?_
          refine lv_aload_n E.1 E.2.1 dX7_readNamed_120 rfl (lv_at hl 0 rfl) ?_
          refine lv_aload_n E.1 E.2.1 dX7_readNamed_121 rfl (lv_at hl 0 rfl) ?_
          refine gf_X7_58 E hW g10 dX7_readNamed_122 ?_
          refine lv_aload_n E.1 E.2.1 dX7_readNamed_125 rfl (lv_at hl 0 rfl) ?_
          refine gf_X7_55 E hW g10 dX7_readNamed_126 ?_
          refine lv_iload_n E.1 E.2.1 dX7_readNamed_129 rfl (lv_at hl 1 rfl) ?_
          refine r_aald (t := 3) (ty := .array .long) E hW (pr_eq g22.1) g22.2 rfl rfl (by decide) dX7_readNamed_130 ?_
          refine lv_aload_n E.1 E.2.1 dX7_readNamed_131 rfl (lv_at hl 0 rfl) ?_
          refine gf_X7_46 E hW g10 dX7_readNamed_132 ?_
          refine lv_iload_n E.1 E.2.1 dX7_readNamed_135 rfl (lv_at hl 1 rfl) ?_
          refine lv_iconst (v := (1 : Int32)) E.1 E.2.1 dX7_readNamed_136 (by decide) ?_
          refine lv_iadd E.1 E.2.1 dX7_readNamed_137 ?_
          refine r_aald (t := 3) (ty := .array .long) E hW (pr_eq g21.1) g21.2 rfl rfl (by decide) dX7_readNamed_138 ?_
          refine lv_aload_n E.1 E.2.1 dX7_readNamed_139 rfl (lv_at hl 0 rfl) ?_
          refine gf_X7_52 E hW g10 dX7_readNamed_140 ?_
          refine lv_iload_n E.1 E.2.1 dX7_readNamed_143 rfl (lv_at hl 1 rfl) ?_
          obtain ⟨g36, h⟩ := gd_r h
          refine r_aald (t := 3) (ty := .array .long) E hW (pr_eq g36.1) g36.2 rfl rfl (by decide) dX7_readNamed_144 ?_
          obtain ⟨x38, σ37, c39, h⟩ := obn_r h
          refine c_V (As := [.ref (G.2.2.2 + (rR q6 22)), .ref (G.2.2.2 + (rR (rR q6 21) x7.toNatClampNeg)), .ref (G.2.2.2 + (rR (rR q6 18) (x7 + (1 : Int32)).toNatClampNeg)), .ref (G.2.2.2 + (rR (rR q6 20) x7.toNatClampNeg))]) (rest := [.ref (G.2.2.2 + q6)]) E hW (m_X7_compositionOf c39) g10 rfl kw_1151 wv_X7_compositionOf yo_X7_compositionOf ⟨rfl, rfl⟩ ⟨by dsimp only; omega, by dsimp only; omega⟩ (lv_size hl) (Nat.le_of_ble_eq_true rfl) ⟨(Nat.le_of_ble_eq_true rfl), (Nat.le_of_ble_eq_true rfl)⟩ rfl dX7_readNamed_145 (fun H locs hW => ?_)
          refine W.eq (g2 := F0 m 148 ls [.int x38, .ref (G.2.2.2 + q6)]) rfl ?_
          obtain ⟨J43, eJ43, h⟩ := bnd_x h
          have hJ43 : ∀ (x41 : Int32) (q42 : Nat) (σ40 : St) (H : Heap) (locs : List Loc) (ls : Array Slot), J43 x41 q42 σ40 = some (r0, σ0) → Wo G skR A0 s σ40 H locs → lv_has ls 4 [] → W p l e ({ frames := rf + 6, cells := 0, slots := 0, locals := rl + 158 } : Room) s m args below meth c H locs 0 0 (MQ below (QO (PoC G skR σ0) A0 none) args s 0 0 A0) (F0 m 156 ls [.int x41, .ref (G.2.2.2 + q42)]) := by
            intro x41 q42 σ40 H locs ls h hW hl
            have h := jr3 eJ43 h
            obtain ⟨g44, h⟩ := gd_r h
            obtain ⟨_r, σ45, c46, h⟩ := obn_r h
            refine c_V (As := [.int x41]) (rest := []) E hW (m_X7_refuse c46) g44 rfl kw_1136 wv_X7_refuse yo_X7_refuse ⟨rfl, rfl⟩ ⟨by dsimp only; omega, by dsimp only; omega⟩ (lv_size hl) (Nat.le_of_ble_eq_true rfl) ⟨(Nat.le_of_ble_eq_true rfl), (Nat.le_of_ble_eq_true rfl)⟩ rfl dX7_readNamed_156 (fun H locs hW => ?_)
            refine W.eq (g2 := F0 m 159 ls []) rfl ?_
            exact e_v E hW hr hlk h dX7_readNamed_159
          refine lv_if_ne (tgt := 155) E.1 E.2.1 dX7_readNamed_148 (by decide) (fun g => ?_) (fun g => ?_)
          · have h := ifn h g
            refine lv_iconst (v := (0 : Int32)) E.1 E.2.1 dX7_readNamed_155 (by decide) ?_
            exact hJ43 _ _ _ _ _ _ h hW (lv_sub hl [] rfl)
          · have h := ifp h g
            refine lv_iconst (v := (1 : Int32)) E.1 E.2.1 dX7_readNamed_151 (by decide) ?_
            refine lv_goto (tgt := 156) E.1 E.2.1 dX7_readNamed_152 (by decide) ?_
            exact hJ43 _ _ _ _ _ _ h hW (lv_sub hl [] rfl)
        · have h := ifp h g
          exact e_v E hW hr hlk h dX7_readNamed_106
      · have h := ifn h g
        refine lv_aload_n E.1 E.2.1 dX7_readNamed_35 rfl (lv_at hl 0 rfl) ?_
        refine gf_X7_20 E hW g10 dX7_readNamed_36 ?_
        refine lv_iload_n E.1 E.2.1 dX7_readNamed_39 rfl (lv_at hl 2 rfl) ?_
        refine lv_aload_n E.1 E.2.1 dX7_readNamed_40 rfl (lv_at hl 0 rfl) ?_
        refine gf_X7_52 E hW g10 dX7_readNamed_41 ?_
        refine lv_iload_n E.1 E.2.1 dX7_readNamed_44 rfl (lv_at hl 1 rfl) ?_
        obtain ⟨g47, h⟩ := gd_r h
        refine r_aald (t := 3) (ty := .array .long) E hW (pr_eq g47.1) g47.2 rfl rfl (by decide) dX7_readNamed_45 ?_
        obtain ⟨_r, σ48, c49, h⟩ := obn_r h
        refine c_S (As := [.ref (G.2.2.2 + (rR q6 9)), .int x8, .ref (G.2.2.2 + (rR (rR q6 20) x7.toNatClampNeg))]) (rest := []) E hW (m_X7_take c49) kw_1148 ws_X7_take yo_X7_take ⟨rfl, rfl⟩ ⟨by dsimp only; omega, by dsimp only; omega⟩ (lv_size hl) (Nat.le_of_ble_eq_true rfl) ⟨(Nat.le_of_ble_eq_true rfl), (Nat.le_of_ble_eq_true rfl)⟩ rfl dX7_readNamed_46 (fun H locs hW => ?_)
        refine W.eq (g2 := F0 m 49 ls []) rfl ?_
        exact e_v E hW hr hlk h dX7_readNamed_49
    · have h := ifp h g
      exact e_v E hW hr hlk h dX7_readNamed_25
  refine lv_if_ne (tgt := 18) E.1 E.2.1 dX7_readNamed_8 (by decide) (fun g => ?_) (fun g => ?_)
  · have h := ifn h g
    exact hJ9 _ _ _ _ _ _ _ h hW (lv_sub hl [0, 1, 3] rfl)
  · have h := ifp h g
    refine lv_aload_n E.1 E.2.1 dX7_readNamed_11 rfl (lv_at hl 0 rfl) ?_
    refine lv_bipush (v := (-4 : Int32)) E.1 E.2.1 dX7_readNamed_12 (by decide) ?_
    refine lv_iload_n E.1 E.2.1 dX7_readNamed_14 rfl (lv_at hl 2 rfl) ?_
    obtain ⟨_r, σ50, c51, h⟩ := obn_r h
    refine c_V (As := [.int (-4 : Int32), .int a2]) (rest := []) E hW (m_X7_report c51) g1 rfl kw_1038 wv_X7_report yo_X7_report ⟨rfl, rfl⟩ ⟨by dsimp only; omega, by dsimp only; omega⟩ (lv_size hl) (Nat.le_of_ble_eq_true rfl) ⟨(Nat.le_of_ble_eq_true rfl), (Nat.le_of_ble_eq_true rfl)⟩ rfl dX7_readNamed_15 (fun H locs hW => ?_)
    refine W.eq (g2 := F0 m 18 ls []) rfl ?_
    exact hJ9 _ _ _ _ _ _ _ h hW (lv_sub hl [0, 1, 3] rfl)
set_option maxHeartbeats 4000000 in
set_option maxRecDepth 100000 in
theorem m_X7_factor {rc : Nat → Int32 → St → Option (Unit × St)} {rf rl : Nat} {l : Launch} {G : GP} {sz : Nat} {q0 : Nat} {a1 : Int32} {σ σ0 : St} {r0 : Unit} (hrc : ∀ {sz q : Nat} {a0 : Int32} {σ σ0 : St} {r0 : Unit}, rc q a0 σ = some (r0, σ0) → Met l yX7_sum [.code yX7_sum cX7_sum 3 none] ({ frames := rf, cells := 0, slots := 0, locals := rl } : Room) (va_Pc [.ref (G.2.2.2 + q), .int a0] (PreC G skR sz σ)) (QO (PoC G skR σ0) (Aw G.2.2.2 skR.1 sz) none) 0 0 (Aw G.2.2.2 skR.1 sz)) (h : f_X7_factor rc q0 a1 σ = some (r0, σ0)) : Met l yX7_factor [.code yX7_factor cX7_factor 5 none] ({ frames := rf + 7, cells := 0, slots := 0, locals := rl + 222 } : Room) (va_Pc [.ref (G.2.2.2 + q0), .int a1] (PreC G skR sz σ)) (QO (PoC G skR σ0) (Aw G.2.2.2 skR.1 sz) none) 0 0 (Aw G.2.2.2 skR.1 sz) := by
  refine mkMet (by decide +kernel) (Nat.le_of_ble_eq_true rfl) skR_ok ?_
  intro p e s m below meth c ls E hW hl hr hlk
  have hl : lv_has ls 5 [(0, .ref (G.2.2.2 + q0)), (1, .int a1)] := hl
  generalize Aw G.2.2.2 skR.1 s.heap.size = A0 at E hW ⊢
  generalize ([.ref (G.2.2.2 + q0), .int a1] : List Value).toArray = args
  unfold f_X7_factor at h
  refine lv_aload_n E.1 E.2.1 dX7_factor_0 rfl (lv_at hl 0 rfl) ?_
  obtain ⟨g1, h⟩ := gd_r h
  obtain ⟨x3, σ2, c4, h⟩ := obn_r h
  refine c_V (As := []) (rest := []) E hW (m_X7_isGood c4) g1 rfl kw_1024 wv_X7_isGood yo_X7_isGood ⟨rfl, rfl⟩ ⟨by dsimp only; omega, by dsimp only; omega⟩ (lv_size hl) (Nat.le_of_ble_eq_true rfl) ⟨(Nat.le_of_ble_eq_true rfl), (Nat.le_of_ble_eq_true rfl)⟩ rfl dX7_factor_1 (fun H locs hW => ?_)
  refine W.eq (g2 := F0 m 4 ls [.int x3]) rfl ?_
  refine lv_if_ne (tgt := 8) E.1 E.2.1 dX7_factor_4 (by decide) (fun g => ?_) (fun g => ?_)
  · have h := ifn h g
    refine lv_aload_n E.1 E.2.1 dX7_factor_8 rfl (lv_at hl 0 rfl) ?_
    refine gf_X7_52 E hW g1 dX7_factor_9 ?_
    refine lv_iload_n E.1 E.2.1 dX7_factor_12 rfl (lv_at hl 1 rfl) ?_
    obtain ⟨g5, h⟩ := gd_r h
    refine r_aald (t := 3) (ty := .array .long) E hW (pr_eq g5.1) g5.2 rfl rfl (by decide) dX7_factor_13 ?_
    obtain ⟨_r, σ6, c7, h⟩ := obn_r h
    refine c_S (As := [.ref (G.2.2.2 + (rR (rR q0 20) a1.toNatClampNeg))]) (rest := []) E hW (m_X7_clearRow c7) kw_1066 ws_X7_clearRow yo_X7_clearRow ⟨rfl, rfl⟩ ⟨by dsimp only; omega, by dsimp only; omega⟩ (lv_size hl) (Nat.le_of_ble_eq_true rfl) ⟨(Nat.le_of_ble_eq_true rfl), (Nat.le_of_ble_eq_true rfl)⟩ rfl dX7_factor_14 (fun H locs hW => ?_)
    refine W.eq (g2 := F0 m 17 ls []) rfl ?_
    refine lv_aload_n E.1 E.2.1 dX7_factor_17 rfl (lv_at hl 0 rfl) ?_
    obtain ⟨x9, σ8, c10, h⟩ := obn_r h
    refine c_V (As := []) (rest := []) E hW (m_X7_next c10) g1 rfl kw_1028 wv_X7_next yo_X7_next ⟨rfl, rfl⟩ ⟨by dsimp only; omega, by dsimp only; omega⟩ (lv_size hl) (Nat.le_of_ble_eq_true rfl) ⟨(Nat.le_of_ble_eq_true rfl), (Nat.le_of_ble_eq_true rfl)⟩ rfl dX7_factor_18 (fun H locs hW => ?_)
    refine W.eq (g2 := F0 m 21 ls [.int x9]) rfl ?_
    refine lv_istore_n (lv' := [(2, .int x9), (0, .ref (G.2.2.2 + q0)), (1, .int a1)]) E.1 E.2.1 dX7_factor_21 rfl hl (by decide) rfl (fun ls hl => ?_)
    refine lv_aload_n E.1 E.2.1 dX7_factor_22 rfl (lv_at hl 1 rfl) ?_
    refine gf_X7_167 E hW g1 dX7_factor_23 ?_
    refine lv_topi (fun x11 ex11 => ?_)
    have h := bnd_r ex11 h
    refine lv_istore_n (lv' := [(3, .int x11), (2, .int x9), (0, .ref (G.2.2.2 + q0)), (1, .int a1)]) E.1 E.2.1 dX7_factor_26 rfl hl (by decide) rfl (fun ls hl => ?_)
    refine lv_iload_n E.1 E.2.1 dX7_factor_27 rfl (lv_at hl 1 rfl) ?_
    obtain ⟨x13, σ12, c14, h⟩ := obn_r h
    refine c_S (As := [.int x9]) (rest := []) E hW (m_X7_isDigit c14) kw_1069 ws_X7_isDigit yo_X7_isDigit ⟨rfl, rfl⟩ ⟨by dsimp only; omega, by dsimp only; omega⟩ (lv_size hl) (Nat.le_of_ble_eq_true rfl) ⟨(Nat.le_of_ble_eq_true rfl), (Nat.le_of_ble_eq_true rfl)⟩ rfl dX7_factor_28 (fun H locs hW => ?_)
    refine W.eq (g2 := F0 m 31 ls [.int x13]) rfl ?_
    refine lv_if_eq (tgt := 53) E.1 E.2.1 dX7_factor_31 (by decide) (fun g => ?_) (fun g => ?_)
    · have h := ifp h g
      refine lv_iload_n E.1 E.2.1 dX7_factor_53 rfl (lv_at hl 1 rfl) ?_
      refine lv_bipush (v := (40 : Int32)) E.1 E.2.1 dX7_factor_54 (by decide) ?_
      refine lv_icmp_ne (tgt := 98) E.1 E.2.1 dX7_factor_56 (by decide) (fun g => ?_) (fun g => ?_)
      · have h := ifn h g
        refine lv_aload_n E.1 E.2.1 dX7_factor_98 rfl (lv_at hl 2 rfl) ?_
        refine r_ldcS E 6 (by decide) ⟨rfl, rfl⟩ dX7_factor_99 ?_
        obtain ⟨x16, σ15, c17, h⟩ := obn_r h
        refine c_V (As := [.ref (G.2.2.1 6)]) (rest := []) E hW (m_X7_takeWord c17) g1 rfl kw_1020 wv_X7_takeWord yo_X7_takeWord ⟨rfl, rfl⟩ ⟨by dsimp only; omega, by dsimp only; omega⟩ (lv_size hl) (Nat.le_of_ble_eq_true rfl) ⟨(Nat.le_of_ble_eq_true rfl), (Nat.le_of_ble_eq_true rfl)⟩ rfl dX7_factor_101 (fun H locs hW => ?_)
        refine W.eq (g2 := F0 m 104 ls [.int x16]) rfl ?_
        refine lv_if_eq (tgt := 125) E.1 E.2.1 dX7_factor_104 (by decide) (fun g => ?_) (fun g => ?_)
        · have h := ifp h g
          refine lv_aload_n E.1 E.2.1 dX7_factor_125 rfl (lv_at hl 2 rfl) ?_
          refine r_ldcSW E 7 (by decide) ⟨rfl, rfl⟩ dX7_factor_126 ?_
          obtain ⟨x19, σ18, c20, h⟩ := obn_r h
          refine c_V (As := [.ref (G.2.2.1 7)]) (rest := []) E hW (m_X7_takeWord c20) g1 rfl kw_1020 wv_X7_takeWord yo_X7_takeWord ⟨rfl, rfl⟩ ⟨by dsimp only; omega, by dsimp only; omega⟩ (lv_size hl) (Nat.le_of_ble_eq_true rfl) ⟨(Nat.le_of_ble_eq_true rfl), (Nat.le_of_ble_eq_true rfl)⟩ rfl dX7_factor_129 (fun H locs hW => ?_)
          refine W.eq (g2 := F0 m 132 ls [.int x19]) rfl ?_
          refine lv_if_eq (tgt := 153) E.1 E.2.1 dX7_factor_132 (by decide) (fun g => ?_) (fun g => ?_)
          · have h := ifp h g
            refine lv_aload_n E.1 E.2.1 dX7_factor_153 rfl (lv_at hl 2 rfl) ?_
            refine r_ldcSW E 8 (by decide) ⟨rfl, rfl⟩ dX7_factor_154 ?_
            obtain ⟨x22, σ21, c23, h⟩ := obn_r h
            refine c_V (As := [.ref (G.2.2.1 8)]) (rest := []) E hW (m_X7_takeWord c23) g1 rfl kw_1020 wv_X7_takeWord yo_X7_takeWord ⟨rfl, rfl⟩ ⟨by dsimp only; omega, by dsimp only; omega⟩ (lv_size hl) (Nat.le_of_ble_eq_true rfl) ⟨(Nat.le_of_ble_eq_true rfl), (Nat.le_of_ble_eq_true rfl)⟩ rfl dX7_factor_157 (fun H locs hW => ?_)
            refine W.eq (g2 := F0 m 160 ls [.int x22]) rfl ?_
            refine lv_if_eq (tgt := 172) E.1 E.2.1 dX7_factor_160 (by decide) (fun g => ?_) (fun g => ?_)
            · have h := ifp h g
              refine lv_aload_n E.1 E.2.1 dX7_factor_172 rfl (lv_at hl 2 rfl) ?_
              refine r_ldcSW E 9 (by decide) ⟨rfl, rfl⟩ dX7_factor_173 ?_
              obtain ⟨x25, σ24, c26, h⟩ := obn_r h
              refine c_V (As := [.ref (G.2.2.1 9)]) (rest := []) E hW (m_X7_takeWord c26) g1 rfl kw_1020 wv_X7_takeWord yo_X7_takeWord ⟨rfl, rfl⟩ ⟨by dsimp only; omega, by dsimp only; omega⟩ (lv_size hl) (Nat.le_of_ble_eq_true rfl) ⟨(Nat.le_of_ble_eq_true rfl), (Nat.le_of_ble_eq_true rfl)⟩ rfl dX7_factor_176 (fun H locs hW => ?_)
              refine W.eq (g2 := F0 m 179 ls [.int x25]) rfl ?_
              refine lv_if_eq (tgt := 191) E.1 E.2.1 dX7_factor_179 (by decide) (fun g => ?_) (fun g => ?_)
              · have h := ifp h g
                refine lv_aload_n E.1 E.2.1 dX7_factor_191 rfl (lv_at hl 2 rfl) ?_
                obtain ⟨x28, σ27, c29, h⟩ := obn_r h
                refine c_V (As := []) (rest := []) E hW (m_X7_takeName c29) g1 rfl kw_1050 wv_X7_takeName yo_X7_takeName ⟨rfl, rfl⟩ ⟨by dsimp only; omega, by dsimp only; omega⟩ (lv_size hl) (Nat.le_of_ble_eq_true rfl) ⟨(Nat.le_of_ble_eq_true rfl), (Nat.le_of_ble_eq_true rfl)⟩ rfl dX7_factor_192 (fun H locs hW => ?_)
                refine W.eq (g2 := F0 m 195 ls [.int x28]) rfl ?_
                refine lv_istore (lv' := [(4, .int x28), (3, .int x11), (2, .int x9), (0, .ref (G.2.2.2 + q0)), (1, .int a1)]) E.1 E.2.1 dX7_factor_195 hl (by decide) rfl (fun ls hl => ?_)
                refine lv_iload E.1 E.2.1 dX7_factor_197 (lv_at hl 0 rfl) ?_
                refine lv_iconst (v := (-1 : Int32)) E.1 E.2.1 dX7_factor_199 (by decide) ?_
                refine lv_icmp_ne (tgt := 213) E.1 E.2.1 dX7_factor_200 (by decide) (fun g => ?_) (fun g => ?_)
                · have h := ifn h g
                  refine lv_aload_n E.1 E.2.1 dX7_factor_213 rfl (lv_at hl 3 rfl) ?_
                  refine lv_iload_n E.1 E.2.1 dX7_factor_214 rfl (lv_at hl 4 rfl) ?_
                  refine lv_iload_n E.1 E.2.1 dX7_factor_215 rfl (lv_at hl 1 rfl) ?_
                  refine lv_iload E.1 E.2.1 dX7_factor_216 (lv_at hl 0 rfl) ?_
                  obtain ⟨_r, σ30, c31, h⟩ := obn_r h
                  refine c_V (As := [.int a1, .int x11, .int x28]) (rest := []) E hW (m_X7_readNamed hrc c31) g1 rfl kw_1141 wv_X7_readNamed yo_X7_readNamed ⟨rfl, rfl⟩ ⟨by dsimp only; omega, by dsimp only; omega⟩ (lv_size hl) (Nat.le_of_ble_eq_true rfl) ⟨(Nat.le_of_ble_eq_true rfl), (Nat.le_of_ble_eq_true rfl)⟩ rfl dX7_factor_218 (fun H locs hW => ?_)
                  refine W.eq (g2 := F0 m 221 ls []) rfl ?_
                  exact e_v E hW hr hlk h dX7_factor_221
                · have h := ifp h g
                  refine lv_aload_n E.1 E.2.1 dX7_factor_203 rfl (lv_at hl 3 rfl) ?_
                  refine lv_bipush (v := (-2 : Int32)) E.1 E.2.1 dX7_factor_204 (by decide) ?_
                  refine lv_iload_n E.1 E.2.1 dX7_factor_206 rfl (lv_at hl 1 rfl) ?_
                  obtain ⟨_r, σ32, c33, h⟩ := obn_r h
                  refine c_V (As := [.int (-2 : Int32), .int x11]) (rest := []) E hW (m_X7_report c33) g1 rfl kw_1038 wv_X7_report yo_X7_report ⟨rfl, rfl⟩ ⟨by dsimp only; omega, by dsimp only; omega⟩ (lv_size hl) (Nat.le_of_ble_eq_true rfl) ⟨(Nat.le_of_ble_eq_true rfl), (Nat.le_of_ble_eq_true rfl)⟩ rfl dX7_factor_207 (fun H locs hW => ?_)
                  refine W.eq (g2 := F0 m 210 ls []) rfl ?_
                  refine lv_goto (tgt := 221) E.1 E.2.1 dX7_factor_210 (by decide) ?_
                  exact e_v E hW hr hlk h dX7_factor_221
              · have h := ifn h g
                refine lv_aload_n E.1 E.2.1 dX7_factor_182 rfl (lv_at hl 2 rfl) ?_
                refine lv_iload_n E.1 E.2.1 dX7_factor_183 rfl (lv_at hl 3 rfl) ?_
                refine lv_iconst (v := (1 : Int32)) E.1 E.2.1 dX7_factor_184 (by decide) ?_
                obtain ⟨_r, σ34, c35, h⟩ := obn_r h
                refine c_V (As := [.int a1, .int (1 : Int32)]) (rest := []) E hW (m_X7_readIntegral hrc c35) g1 rfl kw_1099 wv_X7_readIntegral yo_X7_readIntegral ⟨rfl, rfl⟩ ⟨by dsimp only; omega, by dsimp only; omega⟩ (lv_size hl) (Nat.le_of_ble_eq_true rfl) ⟨(Nat.le_of_ble_eq_true rfl), (Nat.le_of_ble_eq_true rfl)⟩ rfl dX7_factor_185 (fun H locs hW => ?_)
                refine W.eq (g2 := F0 m 188 ls []) rfl ?_
                refine lv_goto (tgt := 221) E.1 E.2.1 dX7_factor_188 (by decide) ?_
                exact e_v E hW hr hlk h dX7_factor_221
            · have h := ifn h g
              refine lv_aload_n E.1 E.2.1 dX7_factor_163 rfl (lv_at hl 2 rfl) ?_
              refine lv_iload_n E.1 E.2.1 dX7_factor_164 rfl (lv_at hl 3 rfl) ?_
              refine lv_iconst (v := (0 : Int32)) E.1 E.2.1 dX7_factor_165 (by decide) ?_
              obtain ⟨_r, σ36, c37, h⟩ := obn_r h
              refine c_V (As := [.int a1, .int (0 : Int32)]) (rest := []) E hW (m_X7_readIntegral hrc c37) g1 rfl kw_1099 wv_X7_readIntegral yo_X7_readIntegral ⟨rfl, rfl⟩ ⟨by dsimp only; omega, by dsimp only; omega⟩ (lv_size hl) (Nat.le_of_ble_eq_true rfl) ⟨(Nat.le_of_ble_eq_true rfl), (Nat.le_of_ble_eq_true rfl)⟩ rfl dX7_factor_166 (fun H locs hW => ?_)
              refine W.eq (g2 := F0 m 169 ls []) rfl ?_
              refine lv_goto (tgt := 221) E.1 E.2.1 dX7_factor_169 (by decide) ?_
              exact e_v E hW hr hlk h dX7_factor_221
          · have h := ifn h g
            refine lv_aload_n E.1 E.2.1 dX7_factor_135 rfl (lv_at hl 2 rfl) ?_
            refine gf_X7_52 E hW g1 dX7_factor_136 ?_
            refine lv_iload_n E.1 E.2.1 dX7_factor_139 rfl (lv_at hl 3 rfl) ?_
            refine r_aald (t := 3) (ty := .array .long) E hW (pr_eq g5.1) g5.2 rfl rfl (by decide) dX7_factor_140 ?_
            refine lv_iconst (v := (0 : Int32)) E.1 E.2.1 dX7_factor_141 (by decide) ?_
            refine lv_iconst (v := (1 : Int32)) E.1 E.2.1 dX7_factor_142 (by decide) ?_
            obtain ⟨x39, σ38, c40, h⟩ := obn_r h
            refine c_S (As := [.int (0 : Int32), .int (1 : Int32)]) (rest := [.ref (G.2.2.2 + (rR (rR q0 20) a1.toNatClampNeg))]) E hW (m_X7_place c40) kw_1093 ws_X7_place yo_X7_place ⟨rfl, rfl⟩ ⟨by dsimp only; omega, by dsimp only; omega⟩ (lv_size hl) (Nat.le_of_ble_eq_true rfl) ⟨(Nat.le_of_ble_eq_true rfl), (Nat.le_of_ble_eq_true rfl)⟩ rfl dX7_factor_143 (fun H locs hW => ?_)
            refine W.eq (g2 := F0 m 146 ls [.int x39, .ref (G.2.2.2 + (rR (rR q0 20) a1.toNatClampNeg))]) rfl ?_
            refine lv_ldc2 (v := (1000 : Int64)) E.1 E.2.1 E.2.2.2.1 (E.wd kw_1096) dX7_factor_146 ?_
            obtain ⟨g41, h⟩ := gd_r h
            refine r_last E hW (pr_eq g41.1) g41.2 dX7_factor_149 (fun σ42 H locs eσ42 hW => ?_)
            have h := bnd_r eσ42 h
            refine lv_goto (tgt := 221) E.1 E.2.1 dX7_factor_150 (by decide) ?_
            exact e_v E hW hr hlk h dX7_factor_221
        · have h := ifn h g
          refine lv_aload_n E.1 E.2.1 dX7_factor_107 rfl (lv_at hl 2 rfl) ?_
          refine gf_X7_52 E hW g1 dX7_factor_108 ?_
          refine lv_iload_n E.1 E.2.1 dX7_factor_111 rfl (lv_at hl 3 rfl) ?_
          refine r_aald (t := 3) (ty := .array .long) E hW (pr_eq g5.1) g5.2 rfl rfl (by decide) dX7_factor_112 ?_
          refine lv_iconst (v := (1 : Int32)) E.1 E.2.1 dX7_factor_113 (by decide) ?_
          refine lv_iconst (v := (0 : Int32)) E.1 E.2.1 dX7_factor_114 (by decide) ?_
          obtain ⟨x44, σ43, c45, h⟩ := obn_r h
          refine c_S (As := [.int (1 : Int32), .int (0 : Int32)]) (rest := [.ref (G.2.2.2 + (rR (rR q0 20) a1.toNatClampNeg))]) E hW (m_X7_place c45) kw_1093 ws_X7_place yo_X7_place ⟨rfl, rfl⟩ ⟨by dsimp only; omega, by dsimp only; omega⟩ (lv_size hl) (Nat.le_of_ble_eq_true rfl) ⟨(Nat.le_of_ble_eq_true rfl), (Nat.le_of_ble_eq_true rfl)⟩ rfl dX7_factor_115 (fun H locs hW => ?_)
          refine W.eq (g2 := F0 m 118 ls [.int x44, .ref (G.2.2.2 + (rR (rR q0 20) a1.toNatClampNeg))]) rfl ?_
          refine lv_ldc2 (v := (1000 : Int64)) E.1 E.2.1 E.2.2.2.1 (E.wd kw_1096) dX7_factor_118 ?_
          obtain ⟨g46, h⟩ := gd_r h
          refine r_last E hW (pr_eq g46.1) g46.2 dX7_factor_121 (fun σ47 H locs eσ47 hW => ?_)
          have h := bnd_r eσ47 h
          refine lv_goto (tgt := 221) E.1 E.2.1 dX7_factor_122 (by decide) ?_
          exact e_v E hW hr hlk h dX7_factor_221
      · have h := ifp h g
        refine lv_aload_n E.1 E.2.1 dX7_factor_59 rfl (lv_at hl 2 rfl) ?_
        refine lv_bipush (v := (40 : Int32)) E.1 E.2.1 dX7_factor_60 (by decide) ?_
        obtain ⟨_r, σ48, c49, h⟩ := obn_r h
        refine c_V (As := [.int (40 : Int32)]) (rest := []) E hW (m_X7_open c49) g1 rfl kw_1081 wv_X7_open yo_X7_open ⟨rfl, rfl⟩ ⟨by dsimp only; omega, by dsimp only; omega⟩ (lv_size hl) (Nat.le_of_ble_eq_true rfl) ⟨(Nat.le_of_ble_eq_true rfl), (Nat.le_of_ble_eq_true rfl)⟩ rfl dX7_factor_62 (fun H locs hW => ?_)
        refine W.eq (g2 := F0 m 65 ls []) rfl ?_
        refine lv_aload_n E.1 E.2.1 dX7_factor_65 rfl (lv_at hl 2 rfl) ?_
        refine lv_iload_n E.1 E.2.1 dX7_factor_66 rfl (lv_at hl 3 rfl) ?_
        refine lv_iconst (v := (1 : Int32)) E.1 E.2.1 dX7_factor_67 (by decide) ?_
        refine lv_iadd E.1 E.2.1 dX7_factor_68 ?_
        obtain ⟨_r, σ50, c51, h⟩ := obn_r h
        refine c_V (As := [.int (a1 + (1 : Int32))]) (rest := []) E hW (hrc c51) g1 rfl kw_1054 wv_X7_sum yo_X7_sum ⟨rfl, rfl⟩ ⟨by dsimp only; omega, by dsimp only; omega⟩ (lv_size hl) (Nat.le_of_ble_eq_true rfl) ⟨(Nat.le_of_ble_eq_true rfl), (Nat.le_of_ble_eq_true rfl)⟩ rfl dX7_factor_69 (fun H locs hW => ?_)
        refine W.eq (g2 := F0 m 72 ls []) rfl ?_
        refine lv_aload_n E.1 E.2.1 dX7_factor_72 rfl (lv_at hl 2 rfl) ?_
        refine lv_bipush (v := (41 : Int32)) E.1 E.2.1 dX7_factor_73 (by decide) ?_
        obtain ⟨_r, σ52, c53, h⟩ := obn_r h
        refine c_V (As := [.int (41 : Int32)]) (rest := []) E hW (m_X7_close c53) g1 rfl kw_1085 wv_X7_close yo_X7_close ⟨rfl, rfl⟩ ⟨by dsimp only; omega, by dsimp only; omega⟩ (lv_size hl) (Nat.le_of_ble_eq_true rfl) ⟨(Nat.le_of_ble_eq_true rfl), (Nat.le_of_ble_eq_true rfl)⟩ rfl dX7_factor_75 (fun H locs hW => ?_)
        refine W.eq (g2 := F0 m 78 ls []) rfl ?_
        refine lv_aload_n E.1 E.2.1 dX7_factor_78 rfl (lv_at hl 2 rfl) ?_
        refine gf_X7_46 E hW g1 dX7_factor_79 ?_
        refine lv_iload_n E.1 E.2.1 dX7_factor_82 rfl (lv_at hl 3 rfl) ?_
        refine lv_iconst (v := (1 : Int32)) E.1 E.2.1 dX7_factor_83 (by decide) ?_
        refine lv_iadd E.1 E.2.1 dX7_factor_84 ?_
        obtain ⟨g54, h⟩ := gd_r h
        refine r_aald (t := 3) (ty := .array .long) E hW (pr_eq g54.1) g54.2 rfl rfl (by decide) dX7_factor_85 ?_
        refine lv_aload_n E.1 E.2.1 dX7_factor_86 rfl (lv_at hl 2 rfl) ?_
        refine gf_X7_52 E hW g1 dX7_factor_87 ?_
        refine lv_iload_n E.1 E.2.1 dX7_factor_90 rfl (lv_at hl 3 rfl) ?_
        refine r_aald (t := 3) (ty := .array .long) E hW (pr_eq g5.1) g5.2 rfl rfl (by decide) dX7_factor_91 ?_
        obtain ⟨_r, σ55, c56, h⟩ := obn_r h
        refine c_S (As := [.ref (G.2.2.2 + (rR (rR q0 18) (a1 + (1 : Int32)).toNatClampNeg)), .ref (G.2.2.2 + (rR (rR q0 20) a1.toNatClampNeg))]) (rest := []) E hW (m_X7_copyRow c56) kw_1089 ws_X7_copyRow yo_X7_copyRow ⟨rfl, rfl⟩ ⟨by dsimp only; omega, by dsimp only; omega⟩ (lv_size hl) (Nat.le_of_ble_eq_true rfl) ⟨(Nat.le_of_ble_eq_true rfl), (Nat.le_of_ble_eq_true rfl)⟩ rfl dX7_factor_92 (fun H locs hW => ?_)
        refine W.eq (g2 := F0 m 95 ls []) rfl ?_
        refine lv_goto (tgt := 221) E.1 E.2.1 dX7_factor_95 (by decide) ?_
        exact e_v E hW hr hlk h dX7_factor_221
    · have h := ifn h g
      refine lv_aload_n E.1 E.2.1 dX7_factor_34 rfl (lv_at hl 2 rfl) ?_
      refine gf_X7_52 E hW g1 dX7_factor_35 ?_
      refine lv_iload_n E.1 E.2.1 dX7_factor_38 rfl (lv_at hl 3 rfl) ?_
      refine r_aald (t := 3) (ty := .array .long) E hW (pr_eq g5.1) g5.2 rfl rfl (by decide) dX7_factor_39 ?_
      refine lv_iconst (v := (0 : Int32)) E.1 E.2.1 dX7_factor_40 (by decide) ?_
      refine lv_aload_n E.1 E.2.1 dX7_factor_41 rfl (lv_at hl 2 rfl) ?_
      refine lv_iconst (v := (0 : Int32)) E.1 E.2.1 dX7_factor_42 (by decide) ?_
      refine lv_ldc (v := (100000 : Int32)) E.1 E.2.1 E.2.2.2.1 (E.wd kw_1072) dX7_factor_43 ?_
      obtain ⟨x58, σ57, c59, h⟩ := obn_r h
      refine c_V (As := [.int (0 : Int32), .int (100000 : Int32)]) (rest := [.int (0 : Int32), .ref (G.2.2.2 + (rR (rR q0 20) a1.toNatClampNeg))]) E hW (m_X7_number c59) g1 rfl kw_1073 wv_X7_number yo_X7_number ⟨rfl, rfl⟩ ⟨by dsimp only; omega, by dsimp only; omega⟩ (lv_size hl) (Nat.le_of_ble_eq_true rfl) ⟨(Nat.le_of_ble_eq_true rfl), (Nat.le_of_ble_eq_true rfl)⟩ rfl dX7_factor_45 (fun H locs hW => ?_)
      refine W.eq (g2 := F0 m 48 ls [.int x58, .int (0 : Int32), .ref (G.2.2.2 + (rR (rR q0 20) a1.toNatClampNeg))]) rfl ?_
      refine lv_i2l E.1 E.2.1 dX7_factor_48 rfl ?_
      obtain ⟨g60, h⟩ := gd_r h
      refine r_last E hW (pr_eq g60.1) g60.2 dX7_factor_49 (fun σ61 H locs eσ61 hW => ?_)
      have h := bnd_r eσ61 h
      refine lv_goto (tgt := 221) E.1 E.2.1 dX7_factor_50 (by decide) ?_
      exact e_v E hW hr hlk h dX7_factor_221
  · have h := ifp h g
    exact e_v E hW hr hlk h dX7_factor_7
set_option maxHeartbeats 4000000 in
set_option maxRecDepth 100000 in
theorem L_X7_term_20 {p : Program} {l : Launch} {e : Env} {s : State} {m : MethodId} {args : Array Value} {below : List Frame} {meth : Method} {c : Code} {G : GP} {A0 : Nat → Prop} {σ0 : St} {r0 : Unit} {rc : Nat → Int32 → St → Option (Unit × St)} {rf rl : Nat} (hrc : ∀ {sz q : Nat} {a0 : Int32} {σ σ0 : St} {r0 : Unit}, rc q a0 σ = some (r0, σ0) → Met l yX7_sum [.code yX7_sum cX7_sum 3 none] ({ frames := rf, cells := 0, slots := 0, locals := rl } : Room) (va_Pc [.ref (G.2.2.2 + q), .int a0] (PreC G skR sz σ)) (QO (PoC G skR σ0) (Aw G.2.2.2 skR.1 sz) none) 0 0 (Aw G.2.2.2 skR.1 sz)) (E : En p m c s cX7_term 2 yX7_term.cls G A0) (hr : meth.sig.returnType = none) (hlk : meth.locks = false) : ∀ (n11 : Nat) (q9 : Nat) (x10 : Int32) (σ8 : St) (H : Heap) (locs : List Loc) (ls : Array Slot), f_X7_term_L20 rc n11 q9 x10 σ8 = some (r0, σ0) → Wo G skR A0 s σ8 H locs → lv_has ls 2 [(0, .ref (G.2.2.2 + q9)), (1, .int x10)] → W p l e ({ frames := rf + 8, cells := 0, slots := 0, locals := rl + 246 } : Room) s m args below meth c H locs 0 0 (MQ below (QO (PoC G skR σ0) A0 none) args s 0 0 A0) (F0 m 20 ls []) := by
  intro n11
  induction n11 with
  | zero =>
    intro q9 x10 σ8 H locs ls h hW hl
    rw [f_X7_term_L20] at h
    cases h
  | succ n11 ih =>
    intro q9 x10 σ8 H locs ls h hW hl
    rw [f_X7_term_L20] at h
    refine lv_aload_n E.1 E.2.1 dX7_term_20 rfl (lv_at hl 0 rfl) ?_
    obtain ⟨g12, h⟩ := gd_r h
    obtain ⟨x14, σ13, c15, h⟩ := obn_r h
    refine c_V (As := []) (rest := []) E hW (m_X7_isGood c15) g12 rfl kw_1024 wv_X7_isGood yo_X7_isGood ⟨rfl, rfl⟩ ⟨by dsimp only; omega, by dsimp only; omega⟩ (lv_size hl) (Nat.le_of_ble_eq_true rfl) ⟨(Nat.le_of_ble_eq_true rfl), (Nat.le_of_ble_eq_true rfl)⟩ rfl dX7_term_21 (fun H locs hW => ?_)
    refine W.eq (g2 := F0 m 24 ls [.int x14]) rfl ?_
    refine lv_if_eq (tgt := 87) E.1 E.2.1 dX7_term_24 (by decide) (fun g => ?_) (fun g => ?_)
    · have h := ifp h g
      exact e_v E hW hr hlk h dX7_term_87
    · have h := ifn h g
      refine lv_aload_n E.1 E.2.1 dX7_term_27 rfl (lv_at hl 0 rfl) ?_
      obtain ⟨x17, σ16, c18, h⟩ := obn_r h
      refine c_V (As := []) (rest := []) E hW (m_X7_next c18) g12 rfl kw_1028 wv_X7_next yo_X7_next ⟨rfl, rfl⟩ ⟨by dsimp only; omega, by dsimp only; omega⟩ (lv_size hl) (Nat.le_of_ble_eq_true rfl) ⟨(Nat.le_of_ble_eq_true rfl), (Nat.le_of_ble_eq_true rfl)⟩ rfl dX7_term_28 (fun H locs hW => ?_)
      refine W.eq (g2 := F0 m 31 ls [.int x17]) rfl ?_
      refine lv_bipush (v := (42 : Int32)) E.1 E.2.1 dX7_term_31 (by decide) ?_
      refine lv_icmp_ne (tgt := 87) E.1 E.2.1 dX7_term_33 (by decide) (fun g => ?_) (fun g => ?_)
      · have h := ifn h g
        exact e_v E hW hr hlk h dX7_term_87
      · have h := ifp h g
        refine lv_aload_n E.1 E.2.1 dX7_term_36 rfl (lv_at hl 0 rfl) ?_
        refine lv_dup E.1 E.2.1 dX7_term_37 rfl ?_
        refine gf_X7_167 E hW g12 dX7_term_38 ?_
        refine lv_iconst (v := (1 : Int32)) E.1 E.2.1 dX7_term_41 (by decide) ?_
        refine lv_iadd E.1 E.2.1 dX7_term_42 ?_
        refine pf_X7_167 E hW g12 dX7_term_43 (fun σ19 H locs eσ19 hW => ?_)
        have h := bnd_r eσ19 h
        refine lv_aload_n E.1 E.2.1 dX7_term_46 rfl (lv_at hl 0 rfl) ?_
        refine lv_iload_n E.1 E.2.1 dX7_term_47 rfl (lv_at hl 1 rfl) ?_
        obtain ⟨_r, σ20, c21, h⟩ := obn_r h
        refine c_V (As := [.int x10]) (rest := []) E hW (m_X7_factor hrc c21) g12 rfl kw_1062 wv_X7_factor yo_X7_factor ⟨rfl, rfl⟩ ⟨by dsimp only; omega, by dsimp only; omega⟩ (lv_size hl) (Nat.le_of_ble_eq_true rfl) ⟨(Nat.le_of_ble_eq_true rfl), (Nat.le_of_ble_eq_true rfl)⟩ rfl dX7_term_48 (fun H locs hW => ?_)
        refine W.eq (g2 := F0 m 51 ls []) rfl ?_
        refine lv_aload_n E.1 E.2.1 dX7_term_51 rfl (lv_at hl 0 rfl) ?_
        obtain ⟨x23, σ22, c24, h⟩ := obn_r h
        refine c_V (As := []) (rest := []) E hW (m_X7_isGood c24) g12 rfl kw_1024 wv_X7_isGood yo_X7_isGood ⟨rfl, rfl⟩ ⟨by dsimp only; omega, by dsimp only; omega⟩ (lv_size hl) (Nat.le_of_ble_eq_true rfl) ⟨(Nat.le_of_ble_eq_true rfl), (Nat.le_of_ble_eq_true rfl)⟩ rfl dX7_term_52 (fun H locs hW => ?_)
        refine W.eq (g2 := F0 m 55 ls [.int x23]) rfl ?_
        refine lv_if_eq (tgt := 20) E.1 E.2.1 dX7_term_55 (by decide) (fun g => ?_) (fun g => ?_)
        · have h := ifp h g
          exact ih _ _ _ _ _ _ h hW (lv_sub hl [0, 1] rfl)
        · have h := ifn h g
          refine lv_aload_n E.1 E.2.1 dX7_term_58 rfl (lv_at hl 0 rfl) ?_
          refine lv_aload_n E.1 E.2.1 dX7_term_59 rfl (lv_at hl 0 rfl) ?_
          refine lv_aload_n E.1 E.2.1 dX7_term_60 rfl (lv_at hl 0 rfl) ?_
          refine gf_X7_49 E hW g12 dX7_term_61 ?_
          refine lv_iload_n E.1 E.2.1 dX7_term_64 rfl (lv_at hl 1 rfl) ?_
          obtain ⟨g25, h⟩ := gd_r h
          refine r_aald (t := 3) (ty := .array .long) E hW (pr_eq g25.1) g25.2 rfl rfl (by decide) dX7_term_65 ?_
          refine lv_aload_n E.1 E.2.1 dX7_term_66 rfl (lv_at hl 0 rfl) ?_
          refine gf_X7_52 E hW g12 dX7_term_67 ?_
          refine lv_iload_n E.1 E.2.1 dX7_term_70 rfl (lv_at hl 1 rfl) ?_
          obtain ⟨g26, h⟩ := gd_r h
          refine r_aald (t := 3) (ty := .array .long) E hW (pr_eq g26.1) g26.2 rfl rfl (by decide) dX7_term_71 ?_
          refine lv_aload_n E.1 E.2.1 dX7_term_72 rfl (lv_at hl 0 rfl) ?_
          refine gf_X7_49 E hW g12 dX7_term_73 ?_
          refine lv_iload_n E.1 E.2.1 dX7_term_76 rfl (lv_at hl 1 rfl) ?_
          refine r_aald (t := 3) (ty := .array .long) E hW (pr_eq g25.1) g25.2 rfl rfl (by decide) dX7_term_77 ?_
          obtain ⟨x28, σ27, c29, h⟩ := obn_r h
          refine c_V (As := [.ref (G.2.2.2 + (rR (rR q9 19) x10.toNatClampNeg)), .ref (G.2.2.2 + (rR (rR q9 20) x10.toNatClampNeg)), .ref (G.2.2.2 + (rR (rR q9 19) x10.toNatClampNeg))]) (rest := [.ref (G.2.2.2 + q9)]) E hW (m_X7_productOf c29) g12 rfl kw_1165 wv_X7_productOf yo_X7_productOf ⟨rfl, rfl⟩ ⟨by dsimp only; omega, by dsimp only; omega⟩ (lv_size hl) (Nat.le_of_ble_eq_true rfl) ⟨(Nat.le_of_ble_eq_true rfl), (Nat.le_of_ble_eq_true rfl)⟩ rfl dX7_term_78 (fun H locs hW => ?_)
          refine W.eq (g2 := F0 m 81 ls [.int x28, .ref (G.2.2.2 + q9)]) rfl ?_
          obtain ⟨_r, σ30, c31, h⟩ := obn_r h
          refine c_V (As := [.int x28]) (rest := []) E hW (m_X7_refuse c31) g12 rfl kw_1136 wv_X7_refuse yo_X7_refuse ⟨rfl, rfl⟩ ⟨by dsimp only; omega, by dsimp only; omega⟩ (lv_size hl) (Nat.le_of_ble_eq_true rfl) ⟨(Nat.le_of_ble_eq_true rfl), (Nat.le_of_ble_eq_true rfl)⟩ rfl dX7_term_81 (fun H locs hW => ?_)
          refine W.eq (g2 := F0 m 84 ls []) rfl ?_
          refine lv_goto (tgt := 20) E.1 E.2.1 dX7_term_84 (by decide) ?_
          exact ih _ _ _ _ _ _ h hW (lv_sub hl [0, 1] rfl)
set_option maxHeartbeats 4000000 in
set_option maxRecDepth 100000 in
theorem m_X7_term {rc : Nat → Int32 → St → Option (Unit × St)} {rf rl : Nat} {l : Launch} {G : GP} {sz : Nat} {q0 : Nat} {a1 : Int32} {σ σ0 : St} {r0 : Unit} (hrc : ∀ {sz q : Nat} {a0 : Int32} {σ σ0 : St} {r0 : Unit}, rc q a0 σ = some (r0, σ0) → Met l yX7_sum [.code yX7_sum cX7_sum 3 none] ({ frames := rf, cells := 0, slots := 0, locals := rl } : Room) (va_Pc [.ref (G.2.2.2 + q), .int a0] (PreC G skR sz σ)) (QO (PoC G skR σ0) (Aw G.2.2.2 skR.1 sz) none) 0 0 (Aw G.2.2.2 skR.1 sz)) (h : f_X7_term rc q0 a1 σ = some (r0, σ0)) : Met l yX7_term [.code yX7_term cX7_term 2 none] ({ frames := rf + 8, cells := 0, slots := 0, locals := rl + 246 } : Room) (va_Pc [.ref (G.2.2.2 + q0), .int a1] (PreC G skR sz σ)) (QO (PoC G skR σ0) (Aw G.2.2.2 skR.1 sz) none) 0 0 (Aw G.2.2.2 skR.1 sz) := by
  refine mkMet (by decide +kernel) (Nat.le_of_ble_eq_true rfl) skR_ok ?_
  intro p e s m below meth c ls E hW hl hr hlk
  have hl : lv_has ls 2 [(0, .ref (G.2.2.2 + q0)), (1, .int a1)] := hl
  generalize Aw G.2.2.2 skR.1 s.heap.size = A0 at E hW ⊢
  generalize ([.ref (G.2.2.2 + q0), .int a1] : List Value).toArray = args
  unfold f_X7_term at h
  refine lv_aload_n E.1 E.2.1 dX7_term_0 rfl (lv_at hl 0 rfl) ?_
  refine lv_iload_n E.1 E.2.1 dX7_term_1 rfl (lv_at hl 1 rfl) ?_
  obtain ⟨g1, h⟩ := gd_r h
  obtain ⟨_r, σ2, c3, h⟩ := obn_r h
  refine c_V (As := [.int a1]) (rest := []) E hW (m_X7_factor hrc c3) g1 rfl kw_1062 wv_X7_factor yo_X7_factor ⟨rfl, rfl⟩ ⟨by dsimp only; omega, by dsimp only; omega⟩ (lv_size hl) (Nat.le_of_ble_eq_true rfl) ⟨(Nat.le_of_ble_eq_true rfl), (Nat.le_of_ble_eq_true rfl)⟩ rfl dX7_term_2 (fun H locs hW => ?_)
  refine W.eq (g2 := F0 m 5 ls []) rfl ?_
  refine lv_aload_n E.1 E.2.1 dX7_term_5 rfl (lv_at hl 0 rfl) ?_
  refine gf_X7_52 E hW g1 dX7_term_6 ?_
  refine lv_iload_n E.1 E.2.1 dX7_term_9 rfl (lv_at hl 1 rfl) ?_
  obtain ⟨g4, h⟩ := gd_r h
  refine r_aald (t := 3) (ty := .array .long) E hW (pr_eq g4.1) g4.2 rfl rfl (by decide) dX7_term_10 ?_
  refine lv_aload_n E.1 E.2.1 dX7_term_11 rfl (lv_at hl 0 rfl) ?_
  refine gf_X7_49 E hW g1 dX7_term_12 ?_
  refine lv_iload_n E.1 E.2.1 dX7_term_15 rfl (lv_at hl 1 rfl) ?_
  obtain ⟨g5, h⟩ := gd_r h
  refine r_aald (t := 3) (ty := .array .long) E hW (pr_eq g5.1) g5.2 rfl rfl (by decide) dX7_term_16 ?_
  obtain ⟨_r, σ6, c7, h⟩ := obn_r h
  refine c_S (As := [.ref (G.2.2.2 + (rR (rR q0 20) a1.toNatClampNeg)), .ref (G.2.2.2 + (rR (rR q0 19) a1.toNatClampNeg))]) (rest := []) E hW (m_X7_copyRow c7) kw_1089 ws_X7_copyRow yo_X7_copyRow ⟨rfl, rfl⟩ ⟨by dsimp only; omega, by dsimp only; omega⟩ (lv_size hl) (Nat.le_of_ble_eq_true rfl) ⟨(Nat.le_of_ble_eq_true rfl), (Nat.le_of_ble_eq_true rfl)⟩ rfl dX7_term_17 (fun H locs hW => ?_)
  refine W.eq (g2 := F0 m 20 ls []) rfl ?_
  refine L_X7_term_20 hrc E hr hlk _ _ _ _ _ _ _ h hW (lv_sub hl [0, 1] rfl)
set_option maxHeartbeats 4000000 in
set_option maxRecDepth 100000 in
theorem L_X7_sum_28 {p : Program} {l : Launch} {e : Env} {s : State} {m : MethodId} {args : Array Value} {below : List Frame} {meth : Method} {c : Code} {G : GP} {A0 : Nat → Prop} {σ0 : St} {r0 : Unit} {rc : Nat → Int32 → St → Option (Unit × St)} {rf rl : Nat} (hrc : ∀ {sz q : Nat} {a0 : Int32} {σ σ0 : St} {r0 : Unit}, rc q a0 σ = some (r0, σ0) → Met l yX7_sum [.code yX7_sum cX7_sum 3 none] ({ frames := rf, cells := 0, slots := 0, locals := rl } : Room) (va_Pc [.ref (G.2.2.2 + q), .int a0] (PreC G skR sz σ)) (QO (PoC G skR σ0) (Aw G.2.2.2 skR.1 sz) none) 0 0 (Aw G.2.2.2 skR.1 sz)) (E : En p m c s cX7_sum 3 yX7_sum.cls G A0) (hr : meth.sig.returnType = none) (hlk : meth.locks = false) : ∀ (n14 : Nat) (q12 : Nat) (x13 : Int32) (σ11 : St) (H : Heap) (locs : List Loc) (ls : Array Slot), f_X7_sum_L28 rc n14 q12 x13 σ11 = some (r0, σ0) → Wo G skR A0 s σ11 H locs → lv_has ls 3 [(0, .ref (G.2.2.2 + q12)), (1, .int x13)] → W p l e ({ frames := rf + 9, cells := 0, slots := 0, locals := rl + 267 } : Room) s m args below meth c H locs 0 0 (MQ below (QO (PoC G skR σ0) A0 none) args s 0 0 A0) (F0 m 28 ls []) := by
  intro n14
  induction n14 with
  | zero =>
    intro q12 x13 σ11 H locs ls h hW hl
    rw [f_X7_sum_L28] at h
    cases h
  | succ n14 ih =>
    intro q12 x13 σ11 H locs ls h hW hl
    rw [f_X7_sum_L28] at h
    refine lv_aload_n E.1 E.2.1 dX7_sum_28 rfl (lv_at hl 0 rfl) ?_
    obtain ⟨g15, h⟩ := gd_r h
    obtain ⟨x17, σ16, c18, h⟩ := obn_r h
    refine c_V (As := []) (rest := []) E hW (m_X7_isGood c18) g15 rfl kw_1024 wv_X7_isGood yo_X7_isGood ⟨rfl, rfl⟩ ⟨by dsimp only; omega, by dsimp only; omega⟩ (lv_size hl) (Nat.le_of_ble_eq_true rfl) ⟨(Nat.le_of_ble_eq_true rfl), (Nat.le_of_ble_eq_true rfl)⟩ rfl dX7_sum_29 (fun H locs hW => ?_)
    refine W.eq (g2 := F0 m 32 ls [.int x17]) rfl ?_
    refine lv_if_eq (tgt := 119) E.1 E.2.1 dX7_sum_32 (by decide) (fun g => ?_) (fun g => ?_)
    · have h := ifp h g
      exact e_v E hW hr hlk h dX7_sum_119
    · have h := ifn h g
      refine lv_aload_n E.1 E.2.1 dX7_sum_35 rfl (lv_at hl 0 rfl) ?_
      obtain ⟨x20, σ19, c21, h⟩ := obn_r h
      refine c_V (As := []) (rest := []) E hW (m_X7_next c21) g15 rfl kw_1028 wv_X7_next yo_X7_next ⟨rfl, rfl⟩ ⟨by dsimp only; omega, by dsimp only; omega⟩ (lv_size hl) (Nat.le_of_ble_eq_true rfl) ⟨(Nat.le_of_ble_eq_true rfl), (Nat.le_of_ble_eq_true rfl)⟩ rfl dX7_sum_36 (fun H locs hW => ?_)
      refine W.eq (g2 := F0 m 39 ls [.int x20]) rfl ?_
      refine lv_bipush (v := (43 : Int32)) E.1 E.2.1 dX7_sum_39 (by decide) ?_
      obtain ⟨J25, eJ25, h⟩ := bnd_x h
      have hJ25 : ∀ (q23 : Nat) (x24 : Int32) (σ22 : St) (H : Heap) (locs : List Loc) (ls : Array Slot), J25 q23 x24 σ22 = some (r0, σ0) → Wo G skR A0 s σ22 H locs → lv_has ls 3 [(0, .ref (G.2.2.2 + q23)), (1, .int x24)] → W p l e ({ frames := rf + 9, cells := 0, slots := 0, locals := rl + 267 } : Room) s m args below meth c H locs 0 0 (MQ below (QO (PoC G skR σ0) A0 none) args s 0 0 A0) (F0 m 53 ls []) := by
        intro q23 x24 σ22 H locs ls h hW hl
        have h := jr3 eJ25 h
        refine lv_aload_n E.1 E.2.1 dX7_sum_53 rfl (lv_at hl 0 rfl) ?_
        obtain ⟨g26, h⟩ := gd_r h
        obtain ⟨x28, σ27, c29, h⟩ := obn_r h
        refine c_V (As := []) (rest := []) E hW (m_X7_next c29) g26 rfl kw_1028 wv_X7_next yo_X7_next ⟨rfl, rfl⟩ ⟨by dsimp only; omega, by dsimp only; omega⟩ (lv_size hl) (Nat.le_of_ble_eq_true rfl) ⟨(Nat.le_of_ble_eq_true rfl), (Nat.le_of_ble_eq_true rfl)⟩ rfl dX7_sum_54 (fun H locs hW => ?_)
        refine W.eq (g2 := F0 m 57 ls [.int x28]) rfl ?_
        refine lv_bipush (v := (43 : Int32)) E.1 E.2.1 dX7_sum_57 (by decide) ?_
        obtain ⟨J34, eJ34, h⟩ := bnd_x h
        have hJ34 : ∀ (q31 : Nat) (x32 : Int32) (x33 : Int32) (σ30 : St) (H : Heap) (locs : List Loc) (ls : Array Slot), J34 q31 x32 x33 σ30 = some (r0, σ0) → Wo G skR A0 s σ30 H locs → lv_has ls 3 [(0, .ref (G.2.2.2 + q31)), (1, .int x32)] → W p l e ({ frames := rf + 9, cells := 0, slots := 0, locals := rl + 267 } : Room) s m args below meth c H locs 0 0 (MQ below (QO (PoC G skR σ0) A0 none) args s 0 0 A0) (F0 m 67 ls [.int x33]) := by
          intro q31 x32 x33 σ30 H locs ls h hW hl
          have h := jr4 eJ34 h
          refine lv_istore_n (lv' := [(2, .int x33), (0, .ref (G.2.2.2 + q31)), (1, .int x32)]) E.1 E.2.1 dX7_sum_67 rfl hl (by decide) rfl (fun ls hl => ?_)
          refine lv_aload_n E.1 E.2.1 dX7_sum_68 rfl (lv_at hl 1 rfl) ?_
          refine lv_dup E.1 E.2.1 dX7_sum_69 rfl ?_
          obtain ⟨g35, h⟩ := gd_r h
          refine gf_X7_167 E hW g35 dX7_sum_70 ?_
          refine lv_iconst (v := (1 : Int32)) E.1 E.2.1 dX7_sum_73 (by decide) ?_
          refine lv_iadd E.1 E.2.1 dX7_sum_74 ?_
          refine pf_X7_167 E hW g35 dX7_sum_75 (fun σ36 H locs eσ36 hW => ?_)
          have h := bnd_r eσ36 h
          refine lv_aload_n E.1 E.2.1 dX7_sum_78 rfl (lv_at hl 1 rfl) ?_
          refine lv_iload_n E.1 E.2.1 dX7_sum_79 rfl (lv_at hl 2 rfl) ?_
          obtain ⟨_r, σ37, c38, h⟩ := obn_r h
          refine c_V (As := [.int x32]) (rest := []) E hW (m_X7_term hrc c38) g35 rfl kw_1058 wv_X7_term yo_X7_term ⟨rfl, rfl⟩ ⟨by dsimp only; omega, by dsimp only; omega⟩ (lv_size hl) (Nat.le_of_ble_eq_true rfl) ⟨(Nat.le_of_ble_eq_true rfl), (Nat.le_of_ble_eq_true rfl)⟩ rfl dX7_sum_80 (fun H locs hW => ?_)
          refine W.eq (g2 := F0 m 83 ls []) rfl ?_
          refine lv_aload_n E.1 E.2.1 dX7_sum_83 rfl (lv_at hl 1 rfl) ?_
          obtain ⟨x40, σ39, c41, h⟩ := obn_r h
          refine c_V (As := []) (rest := []) E hW (m_X7_isGood c41) g35 rfl kw_1024 wv_X7_isGood yo_X7_isGood ⟨rfl, rfl⟩ ⟨by dsimp only; omega, by dsimp only; omega⟩ (lv_size hl) (Nat.le_of_ble_eq_true rfl) ⟨(Nat.le_of_ble_eq_true rfl), (Nat.le_of_ble_eq_true rfl)⟩ rfl dX7_sum_84 (fun H locs hW => ?_)
          refine W.eq (g2 := F0 m 87 ls [.int x40]) rfl ?_
          refine lv_if_eq (tgt := 116) E.1 E.2.1 dX7_sum_87 (by decide) (fun g => ?_) (fun g => ?_)
          · have h := ifp h g
            refine lv_goto (tgt := 28) E.1 E.2.1 dX7_sum_116 (by decide) ?_
            exact ih _ _ _ _ _ _ h hW (lv_sub hl [1, 2] rfl)
          · have h := ifn h g
            refine lv_aload_n E.1 E.2.1 dX7_sum_90 rfl (lv_at hl 1 rfl) ?_
            refine lv_aload_n E.1 E.2.1 dX7_sum_91 rfl (lv_at hl 1 rfl) ?_
            refine gf_X7_46 E hW g35 dX7_sum_92 ?_
            refine lv_iload_n E.1 E.2.1 dX7_sum_95 rfl (lv_at hl 2 rfl) ?_
            obtain ⟨g42, h⟩ := gd_r h
            refine r_aald (t := 3) (ty := .array .long) E hW (pr_eq g42.1) g42.2 rfl rfl (by decide) dX7_sum_96 ?_
            refine lv_aload_n E.1 E.2.1 dX7_sum_97 rfl (lv_at hl 1 rfl) ?_
            refine gf_X7_49 E hW g35 dX7_sum_98 ?_
            refine lv_iload_n E.1 E.2.1 dX7_sum_101 rfl (lv_at hl 2 rfl) ?_
            obtain ⟨g43, h⟩ := gd_r h
            refine r_aald (t := 3) (ty := .array .long) E hW (pr_eq g43.1) g43.2 rfl rfl (by decide) dX7_sum_102 ?_
            refine lv_iload_n E.1 E.2.1 dX7_sum_103 rfl (lv_at hl 0 rfl) ?_
            refine lv_aload_n E.1 E.2.1 dX7_sum_104 rfl (lv_at hl 1 rfl) ?_
            refine gf_X7_46 E hW g35 dX7_sum_105 ?_
            refine lv_iload_n E.1 E.2.1 dX7_sum_108 rfl (lv_at hl 2 rfl) ?_
            refine r_aald (t := 3) (ty := .array .long) E hW (pr_eq g42.1) g42.2 rfl rfl (by decide) dX7_sum_109 ?_
            obtain ⟨x45, σ44, c46, h⟩ := obn_r h
            refine c_S (As := [.ref (G.2.2.2 + (rR (rR q31 18) x32.toNatClampNeg)), .ref (G.2.2.2 + (rR (rR q31 19) x32.toNatClampNeg)), .int x33, .ref (G.2.2.2 + (rR (rR q31 18) x32.toNatClampNeg))]) (rest := [.ref (G.2.2.2 + q31)]) E hW (m_X7_sumOf c46) kw_1179 ws_X7_sumOf yo_X7_sumOf ⟨rfl, rfl⟩ ⟨by dsimp only; omega, by dsimp only; omega⟩ (lv_size hl) (Nat.le_of_ble_eq_true rfl) ⟨(Nat.le_of_ble_eq_true rfl), (Nat.le_of_ble_eq_true rfl)⟩ rfl dX7_sum_110 (fun H locs hW => ?_)
            refine W.eq (g2 := F0 m 113 ls [.int x45, .ref (G.2.2.2 + q31)]) rfl ?_
            obtain ⟨_r, σ47, c48, h⟩ := obn_r h
            refine c_V (As := [.int x45]) (rest := []) E hW (m_X7_refuse c48) g35 rfl kw_1136 wv_X7_refuse yo_X7_refuse ⟨rfl, rfl⟩ ⟨by dsimp only; omega, by dsimp only; omega⟩ (lv_size hl) (Nat.le_of_ble_eq_true rfl) ⟨(Nat.le_of_ble_eq_true rfl), (Nat.le_of_ble_eq_true rfl)⟩ rfl dX7_sum_113 (fun H locs hW => ?_)
            refine W.eq (g2 := F0 m 116 ls []) rfl ?_
            refine lv_goto (tgt := 28) E.1 E.2.1 dX7_sum_116 (by decide) ?_
            exact ih _ _ _ _ _ _ h hW (lv_sub hl [1, 2] rfl)
        refine lv_icmp_ne (tgt := 66) E.1 E.2.1 dX7_sum_59 (by decide) (fun g => ?_) (fun g => ?_)
        · have h := ifn h g
          refine lv_iconst (v := (-1 : Int32)) E.1 E.2.1 dX7_sum_66 (by decide) ?_
          exact hJ34 _ _ _ _ _ _ _ h hW (lv_sub hl [0, 1] rfl)
        · have h := ifp h g
          refine lv_iconst (v := (1 : Int32)) E.1 E.2.1 dX7_sum_62 (by decide) ?_
          refine lv_goto (tgt := 67) E.1 E.2.1 dX7_sum_63 (by decide) ?_
          exact hJ34 _ _ _ _ _ _ _ h hW (lv_sub hl [0, 1] rfl)
      refine lv_icmp_eq (tgt := 53) E.1 E.2.1 dX7_sum_41 (by decide) (fun g => ?_) (fun g => ?_)
      · have h := ifp h g
        exact hJ25 _ _ _ _ _ _ h hW (lv_sub hl [0, 1] rfl)
      · have h := ifn h g
        refine lv_aload_n E.1 E.2.1 dX7_sum_44 rfl (lv_at hl 0 rfl) ?_
        obtain ⟨x50, σ49, c51, h⟩ := obn_r h
        refine c_V (As := []) (rest := []) E hW (m_X7_next c51) g15 rfl kw_1028 wv_X7_next yo_X7_next ⟨rfl, rfl⟩ ⟨by dsimp only; omega, by dsimp only; omega⟩ (lv_size hl) (Nat.le_of_ble_eq_true rfl) ⟨(Nat.le_of_ble_eq_true rfl), (Nat.le_of_ble_eq_true rfl)⟩ rfl dX7_sum_45 (fun H locs hW => ?_)
        refine W.eq (g2 := F0 m 48 ls [.int x50]) rfl ?_
        refine lv_bipush (v := (45 : Int32)) E.1 E.2.1 dX7_sum_48 (by decide) ?_
        refine lv_icmp_ne (tgt := 119) E.1 E.2.1 dX7_sum_50 (by decide) (fun g => ?_) (fun g => ?_)
        · have h := ifn h g
          exact e_v E hW hr hlk h dX7_sum_119
        · have h := ifp h g
          exact hJ25 _ _ _ _ _ _ h hW (lv_sub hl [0, 1] rfl)
set_option maxHeartbeats 4000000 in
set_option maxRecDepth 100000 in
theorem m_X7_sum {rc : Nat → Int32 → St → Option (Unit × St)} {rf rl : Nat} {l : Launch} {G : GP} {sz : Nat} {q0 : Nat} {a1 : Int32} {σ σ0 : St} {r0 : Unit} (hrc : ∀ {sz q : Nat} {a0 : Int32} {σ σ0 : St} {r0 : Unit}, rc q a0 σ = some (r0, σ0) → Met l yX7_sum [.code yX7_sum cX7_sum 3 none] ({ frames := rf, cells := 0, slots := 0, locals := rl } : Room) (va_Pc [.ref (G.2.2.2 + q), .int a0] (PreC G skR sz σ)) (QO (PoC G skR σ0) (Aw G.2.2.2 skR.1 sz) none) 0 0 (Aw G.2.2.2 skR.1 sz)) (h : f_X7_sum rc q0 a1 σ = some (r0, σ0)) : Met l yX7_sum [.code yX7_sum cX7_sum 3 none] ({ frames := rf + 9, cells := 0, slots := 0, locals := rl + 267 } : Room) (va_Pc [.ref (G.2.2.2 + q0), .int a1] (PreC G skR sz σ)) (QO (PoC G skR σ0) (Aw G.2.2.2 skR.1 sz) none) 0 0 (Aw G.2.2.2 skR.1 sz) := by
  refine mkMet (by decide +kernel) (Nat.le_of_ble_eq_true rfl) skR_ok ?_
  intro p e s m below meth c ls E hW hl hr hlk
  have hl : lv_has ls 3 [(0, .ref (G.2.2.2 + q0)), (1, .int a1)] := hl
  generalize Aw G.2.2.2 skR.1 s.heap.size = A0 at E hW ⊢
  generalize ([.ref (G.2.2.2 + q0), .int a1] : List Value).toArray = args
  unfold f_X7_sum at h
  refine lv_aload_n E.1 E.2.1 dX7_sum_0 rfl (lv_at hl 0 rfl) ?_
  obtain ⟨g1, h⟩ := gd_r h
  obtain ⟨x3, σ2, c4, h⟩ := obn_r h
  refine c_V (As := []) (rest := []) E hW (m_X7_isGood c4) g1 rfl kw_1024 wv_X7_isGood yo_X7_isGood ⟨rfl, rfl⟩ ⟨by dsimp only; omega, by dsimp only; omega⟩ (lv_size hl) (Nat.le_of_ble_eq_true rfl) ⟨(Nat.le_of_ble_eq_true rfl), (Nat.le_of_ble_eq_true rfl)⟩ rfl dX7_sum_1 (fun H locs hW => ?_)
  refine W.eq (g2 := F0 m 4 ls [.int x3]) rfl ?_
  refine lv_if_ne (tgt := 8) E.1 E.2.1 dX7_sum_4 (by decide) (fun g => ?_) (fun g => ?_)
  · have h := ifn h g
    refine lv_aload_n E.1 E.2.1 dX7_sum_8 rfl (lv_at hl 0 rfl) ?_
    refine lv_iload_n E.1 E.2.1 dX7_sum_9 rfl (lv_at hl 1 rfl) ?_
    obtain ⟨_r, σ5, c6, h⟩ := obn_r h
    refine c_V (As := [.int a1]) (rest := []) E hW (m_X7_term hrc c6) g1 rfl kw_1058 wv_X7_term yo_X7_term ⟨rfl, rfl⟩ ⟨by dsimp only; omega, by dsimp only; omega⟩ (lv_size hl) (Nat.le_of_ble_eq_true rfl) ⟨(Nat.le_of_ble_eq_true rfl), (Nat.le_of_ble_eq_true rfl)⟩ rfl dX7_sum_10 (fun H locs hW => ?_)
    refine W.eq (g2 := F0 m 13 ls []) rfl ?_
    refine lv_aload_n E.1 E.2.1 dX7_sum_13 rfl (lv_at hl 0 rfl) ?_
    refine gf_X7_49 E hW g1 dX7_sum_14 ?_
    refine lv_iload_n E.1 E.2.1 dX7_sum_17 rfl (lv_at hl 1 rfl) ?_
    obtain ⟨g7, h⟩ := gd_r h
    refine r_aald (t := 3) (ty := .array .long) E hW (pr_eq g7.1) g7.2 rfl rfl (by decide) dX7_sum_18 ?_
    refine lv_aload_n E.1 E.2.1 dX7_sum_19 rfl (lv_at hl 0 rfl) ?_
    refine gf_X7_46 E hW g1 dX7_sum_20 ?_
    refine lv_iload_n E.1 E.2.1 dX7_sum_23 rfl (lv_at hl 1 rfl) ?_
    obtain ⟨g8, h⟩ := gd_r h
    refine r_aald (t := 3) (ty := .array .long) E hW (pr_eq g8.1) g8.2 rfl rfl (by decide) dX7_sum_24 ?_
    obtain ⟨_r, σ9, c10, h⟩ := obn_r h
    refine c_S (As := [.ref (G.2.2.2 + (rR (rR q0 19) a1.toNatClampNeg)), .ref (G.2.2.2 + (rR (rR q0 18) a1.toNatClampNeg))]) (rest := []) E hW (m_X7_copyRow c10) kw_1089 ws_X7_copyRow yo_X7_copyRow ⟨rfl, rfl⟩ ⟨by dsimp only; omega, by dsimp only; omega⟩ (lv_size hl) (Nat.le_of_ble_eq_true rfl) ⟨(Nat.le_of_ble_eq_true rfl), (Nat.le_of_ble_eq_true rfl)⟩ rfl dX7_sum_25 (fun H locs hW => ?_)
    refine W.eq (g2 := F0 m 28 ls []) rfl ?_
    refine L_X7_sum_28 hrc E hr hlk _ _ _ _ _ _ _ h hW (lv_sub hl [0, 1] rfl)
  · have h := ifp h g
    exact e_v E hW hr hlk h dX7_sum_7
theorem m_X7_sum_RS {l : Launch} {G : GP} : ∀ (n : Nat) {sz q : Nat} {a0 : Int32} {σ σ0 : St} {r0 : Unit}, f_X7_sum_RS n q a0 σ = some (r0, σ0) → Met l yX7_sum [.code yX7_sum cX7_sum 3 none] ({ frames := 9 * n, cells := 0, slots := 0, locals := 267 * n } : Room) (va_Pc [.ref (G.2.2.2 + q), .int a0] (PreC G skR sz σ)) (QO (PoC G skR σ0) (Aw G.2.2.2 skR.1 sz) none) 0 0 (Aw G.2.2.2 skR.1 sz) := by
  intro n
  induction n with
  | zero =>
    intro sz q a0 σ σ0 r0 h
    rw [f_X7_sum_RS] at h
    cases h
  | succ n ih =>
    intro sz q a0 σ σ0 r0 h
    rw [f_X7_sum_RS] at h
    exact m_X7_sum (rf := 9 * n) (rl := 267 * n) (rc := f_X7_sum_RS n) ih h
theorem m_X7_sum_RS8 {l : Launch} {G : GP} {sz q : Nat} {a0 : Int32} {σ σ0 : St} {r0 : Unit} (h : f_X7_sum_RS 8 q a0 σ = some (r0, σ0)) : Met l yX7_sum [.code yX7_sum cX7_sum 3 none] ({ frames := 72, cells := 0, slots := 0, locals := 2136 } : Room) (va_Pc [.ref (G.2.2.2 + q), .int a0] (PreC G skR sz σ)) (QO (PoC G skR σ0) (Aw G.2.2.2 skR.1 sz) none) 0 0 (Aw G.2.2.2 skR.1 sz) := m_X7_sum_RS 8 h
set_option maxHeartbeats 4000000 in
set_option maxRecDepth 100000 in
theorem m_X7_statement {l : Launch} {G : GP} {sz : Nat} {q0 : Nat} {σ σ0 : St} {r0 : Unit} (h : f_X7_statement q0 σ = some (r0, σ0)) : Met l yX7_statement [.code yX7_statement cX7_statement 4 none] ({ frames := 73, cells := 0, slots := 0, locals := 2158 } : Room) (va_Pc [.ref (G.2.2.2 + q0)] (PreC G skR sz σ)) (QO (PoC G skR σ0) (Aw G.2.2.2 skR.1 sz) none) 0 0 (Aw G.2.2.2 skR.1 sz) := by
  refine mkMet (by decide +kernel) (Nat.le_of_ble_eq_true rfl) skR_ok ?_
  intro p e s m below meth c ls E hW hl hr hlk
  have hl : lv_has ls 4 [(0, .ref (G.2.2.2 + q0))] := hl
  generalize Aw G.2.2.2 skR.1 s.heap.size = A0 at E hW ⊢
  generalize ([.ref (G.2.2.2 + q0)] : List Value).toArray = args
  unfold f_X7_statement at h
  refine lv_aload_n E.1 E.2.1 dX7_statement_0 rfl (lv_at hl 0 rfl) ?_
  obtain ⟨g1, h⟩ := gd_r h
  obtain ⟨x3, σ2, c4, h⟩ := obn_r h
  refine c_V (As := []) (rest := []) E hW (m_X7_next c4) g1 rfl kw_1028 wv_X7_next yo_X7_next ⟨rfl, rfl⟩ ⟨(Nat.le_of_ble_eq_true rfl), (Nat.le_of_ble_eq_true rfl)⟩ (lv_size hl) (Nat.le_of_ble_eq_true rfl) ⟨(Nat.le_of_ble_eq_true rfl), (Nat.le_of_ble_eq_true rfl)⟩ rfl dX7_statement_1 (fun H locs hW => ?_)
  refine W.eq (g2 := F0 m 4 ls [.int x3]) rfl ?_
  refine lv_pop E.1 E.2.1 dX7_statement_4 rfl ?_
  refine lv_aload_n E.1 E.2.1 dX7_statement_5 rfl (lv_at hl 0 rfl) ?_
  refine gf_X7_167 E hW g1 dX7_statement_6 ?_
  refine lv_topi (fun x5 ex5 => ?_)
  have h := bnd_r ex5 h
  refine lv_istore_n (lv' := [(1, .int x5), (0, .ref (G.2.2.2 + q0))]) E.1 E.2.1 dX7_statement_9 rfl hl (by decide) rfl (fun ls hl => ?_)
  refine lv_aload_n E.1 E.2.1 dX7_statement_10 rfl (lv_at hl 1 rfl) ?_
  obtain ⟨x7, σ6, c8, h⟩ := obn_r h
  refine c_V (As := []) (rest := []) E hW (m_X7_takeName c8) g1 rfl kw_1050 wv_X7_takeName yo_X7_takeName ⟨rfl, rfl⟩ ⟨(Nat.le_of_ble_eq_true rfl), (Nat.le_of_ble_eq_true rfl)⟩ (lv_size hl) (Nat.le_of_ble_eq_true rfl) ⟨(Nat.le_of_ble_eq_true rfl), (Nat.le_of_ble_eq_true rfl)⟩ rfl dX7_statement_11 (fun H locs hW => ?_)
  refine W.eq (g2 := F0 m 14 ls [.int x7]) rfl ?_
  refine lv_istore_n (lv' := [(2, .int x7), (1, .int x5), (0, .ref (G.2.2.2 + q0))]) E.1 E.2.1 dX7_statement_14 rfl hl (by decide) rfl (fun ls hl => ?_)
  refine lv_iload_n E.1 E.2.1 dX7_statement_15 rfl (lv_at hl 0 rfl) ?_
  refine lv_iconst (v := (-1 : Int32)) E.1 E.2.1 dX7_statement_16 (by decide) ?_
  obtain ⟨J12, eJ12, h⟩ := bnd_x h
  have hJ12 : ∀ (q10 : Nat) (x11 : Int32) (σ9 : St) (H : Heap) (locs : List Loc) (ls : Array Slot), J12 q10 x11 σ9 = some (r0, σ0) → Wo G skR A0 s σ9 H locs → lv_has ls 4 [(0, .ref (G.2.2.2 + q10)), (2, .int x11)] → W p l e ({ frames := 73, cells := 0, slots := 0, locals := 2158 } : Room) s m args below meth c H locs 0 0 (MQ below (QO (PoC G skR σ0) A0 none) args s 0 0 A0) (F0 m 27 ls []) := by
    intro q10 x11 σ9 H locs ls h hW hl
    have h := jr3 eJ12 h
    refine lv_aload_n E.1 E.2.1 dX7_statement_27 rfl (lv_at hl 0 rfl) ?_
    refine lv_bipush (v := (61 : Int32)) E.1 E.2.1 dX7_statement_28 (by decide) ?_
    obtain ⟨g13, h⟩ := gd_r h
    obtain ⟨_r, σ14, c15, h⟩ := obn_r h
    refine c_V (As := [.int (61 : Int32)]) (rest := []) E hW (m_X7_expect c15) g13 rfl kw_1042 wv_X7_expect yo_X7_expect ⟨rfl, rfl⟩ ⟨(Nat.le_of_ble_eq_true rfl), (Nat.le_of_ble_eq_true rfl)⟩ (lv_size hl) (Nat.le_of_ble_eq_true rfl) ⟨(Nat.le_of_ble_eq_true rfl), (Nat.le_of_ble_eq_true rfl)⟩ rfl dX7_statement_30 (fun H locs hW => ?_)
    refine W.eq (g2 := F0 m 33 ls []) rfl ?_
    refine lv_aload_n E.1 E.2.1 dX7_statement_33 rfl (lv_at hl 0 rfl) ?_
    refine lv_iconst (v := (0 : Int32)) E.1 E.2.1 dX7_statement_34 (by decide) ?_
    obtain ⟨_r, σ16, c17, h⟩ := obn_r h
    refine c_V (As := [.int (0 : Int32)]) (rest := []) E hW (m_X7_sum_RS8 c17) g13 rfl kw_1054 wv_X7_sum yo_X7_sum ⟨rfl, rfl⟩ ⟨(Nat.le_of_ble_eq_true rfl), (Nat.le_of_ble_eq_true rfl)⟩ (lv_size hl) (Nat.le_of_ble_eq_true rfl) ⟨(Nat.le_of_ble_eq_true rfl), (Nat.le_of_ble_eq_true rfl)⟩ rfl dX7_statement_35 (fun H locs hW => ?_)
    refine W.eq (g2 := F0 m 38 ls []) rfl ?_
    refine lv_aload_n E.1 E.2.1 dX7_statement_38 rfl (lv_at hl 0 rfl) ?_
    obtain ⟨x19, σ18, c20, h⟩ := obn_r h
    refine c_V (As := []) (rest := []) E hW (m_X7_isGood c20) g13 rfl kw_1024 wv_X7_isGood yo_X7_isGood ⟨rfl, rfl⟩ ⟨(Nat.le_of_ble_eq_true rfl), (Nat.le_of_ble_eq_true rfl)⟩ (lv_size hl) (Nat.le_of_ble_eq_true rfl) ⟨(Nat.le_of_ble_eq_true rfl), (Nat.le_of_ble_eq_true rfl)⟩ rfl dX7_statement_39 (fun H locs hW => ?_)
    refine W.eq (g2 := F0 m 42 ls [.int x19]) rfl ?_
    obtain ⟨J24, eJ24, h⟩ := bnd_x h
    have hJ24 : ∀ (q22 : Nat) (x23 : Int32) (σ21 : St) (H : Heap) (locs : List Loc) (ls : Array Slot), J24 q22 x23 σ21 = some (r0, σ0) → Wo G skR A0 s σ21 H locs → lv_has ls 4 [(0, .ref (G.2.2.2 + q22)), (2, .int x23)] → W p l e ({ frames := 73, cells := 0, slots := 0, locals := 2158 } : Room) s m args below meth c H locs 0 0 (MQ below (QO (PoC G skR σ0) A0 none) args s 0 0 A0) (F0 m 120 ls []) := by
      intro q22 x23 σ21 H locs ls h hW hl
      have h := jr3 eJ24 h
      refine lv_aload_n E.1 E.2.1 dX7_statement_120 rfl (lv_at hl 0 rfl) ?_
      refine lv_bipush (v := (59 : Int32)) E.1 E.2.1 dX7_statement_121 (by decide) ?_
      obtain ⟨g25, h⟩ := gd_r h
      obtain ⟨_r, σ26, c27, h⟩ := obn_r h
      refine c_V (As := [.int (59 : Int32)]) (rest := []) E hW (m_X7_expect c27) g25 rfl kw_1042 wv_X7_expect yo_X7_expect ⟨rfl, rfl⟩ ⟨(Nat.le_of_ble_eq_true rfl), (Nat.le_of_ble_eq_true rfl)⟩ (lv_size hl) (Nat.le_of_ble_eq_true rfl) ⟨(Nat.le_of_ble_eq_true rfl), (Nat.le_of_ble_eq_true rfl)⟩ rfl dX7_statement_123 (fun H locs hW => ?_)
      refine W.eq (g2 := F0 m 126 ls []) rfl ?_
      refine lv_aload_n E.1 E.2.1 dX7_statement_126 rfl (lv_at hl 0 rfl) ?_
      obtain ⟨x29, σ28, c30, h⟩ := obn_r h
      refine c_V (As := []) (rest := []) E hW (m_X7_isGood c30) g25 rfl kw_1024 wv_X7_isGood yo_X7_isGood ⟨rfl, rfl⟩ ⟨(Nat.le_of_ble_eq_true rfl), (Nat.le_of_ble_eq_true rfl)⟩ (lv_size hl) (Nat.le_of_ble_eq_true rfl) ⟨(Nat.le_of_ble_eq_true rfl), (Nat.le_of_ble_eq_true rfl)⟩ rfl dX7_statement_127 (fun H locs hW => ?_)
      refine W.eq (g2 := F0 m 130 ls [.int x29]) rfl ?_
      refine lv_if_eq (tgt := 147) E.1 E.2.1 dX7_statement_130 (by decide) (fun g => ?_) (fun g => ?_)
      · have h := ifp h g
        exact e_v E hW hr hlk h dX7_statement_147
      · have h := ifn h g
        refine lv_aload_n E.1 E.2.1 dX7_statement_133 rfl (lv_at hl 0 rfl) ?_
        refine gf_X7_46 E hW g25 dX7_statement_134 ?_
        refine lv_iconst (v := (0 : Int32)) E.1 E.2.1 dX7_statement_137 (by decide) ?_
        obtain ⟨g31, h⟩ := gd_r h
        refine r_aald (t := 3) (ty := .array .long) E hW (pr_eq g31.1) g31.2 rfl rfl (by decide) dX7_statement_138 ?_
        refine lv_aload_n E.1 E.2.1 dX7_statement_139 rfl (lv_at hl 0 rfl) ?_
        refine gf_X7_20 E hW g25 dX7_statement_140 ?_
        refine lv_iload_n E.1 E.2.1 dX7_statement_143 rfl (lv_at hl 1 rfl) ?_
        obtain ⟨_r, σ32, c33, h⟩ := obn_r h
        refine c_S (As := [.ref (G.2.2.2 + (rR (rR q22 18) (0 : Int32).toNatClampNeg)), .ref (G.2.2.2 + (rR q22 9)), .int x23]) (rest := []) E hW (m_X7_give c33) kw_1182 ws_X7_give yo_X7_give ⟨rfl, rfl⟩ ⟨(Nat.le_of_ble_eq_true rfl), (Nat.le_of_ble_eq_true rfl)⟩ (lv_size hl) (Nat.le_of_ble_eq_true rfl) ⟨(Nat.le_of_ble_eq_true rfl), (Nat.le_of_ble_eq_true rfl)⟩ rfl dX7_statement_144 (fun H locs hW => ?_)
        refine W.eq (g2 := F0 m 147 ls []) rfl ?_
        exact e_v E hW hr hlk h dX7_statement_147
    refine lv_if_eq (tgt := 120) E.1 E.2.1 dX7_statement_42 (by decide) (fun g => ?_) (fun g => ?_)
    · have h := ifp h g
      exact hJ24 _ _ _ _ _ _ h hW (lv_sub hl [0, 1] rfl)
    · have h := ifn h g
      refine lv_aload_n E.1 E.2.1 dX7_statement_45 rfl (lv_at hl 0 rfl) ?_
      obtain ⟨x35, σ34, c36, h⟩ := obn_r h
      refine c_V (As := []) (rest := []) E hW (m_X7_next c36) g13 rfl kw_1028 wv_X7_next yo_X7_next ⟨rfl, rfl⟩ ⟨(Nat.le_of_ble_eq_true rfl), (Nat.le_of_ble_eq_true rfl)⟩ (lv_size hl) (Nat.le_of_ble_eq_true rfl) ⟨(Nat.le_of_ble_eq_true rfl), (Nat.le_of_ble_eq_true rfl)⟩ rfl dX7_statement_46 (fun H locs hW => ?_)
      refine W.eq (g2 := F0 m 49 ls [.int x35]) rfl ?_
      refine lv_bipush (v := (35 : Int32)) E.1 E.2.1 dX7_statement_49 (by decide) ?_
      refine lv_icmp_ne (tgt := 120) E.1 E.2.1 dX7_statement_51 (by decide) (fun g => ?_) (fun g => ?_)
      · have h := ifn h g
        exact hJ24 _ _ _ _ _ _ h hW (lv_sub hl [0, 1] rfl)
      · have h := ifp h g
        refine lv_aload_n E.1 E.2.1 dX7_statement_54 rfl (lv_at hl 0 rfl) ?_
        refine lv_dup E.1 E.2.1 dX7_statement_55 rfl ?_
        refine gf_X7_167 E hW g13 dX7_statement_56 ?_
        refine lv_iconst (v := (1 : Int32)) E.1 E.2.1 dX7_statement_59 (by decide) ?_
        refine lv_iadd E.1 E.2.1 dX7_statement_60 ?_
        refine pf_X7_167 E hW g13 dX7_statement_61 (fun σ37 H locs eσ37 hW => ?_)
        have h := bnd_r eσ37 h
        refine lv_aload_n E.1 E.2.1 dX7_statement_64 rfl (lv_at hl 0 rfl) ?_
        refine lv_iconst (v := (0 : Int32)) E.1 E.2.1 dX7_statement_65 (by decide) ?_
        refine lv_ldc (v := (100000 : Int32)) E.1 E.2.1 E.2.2.2.1 (E.wd kw_1072) dX7_statement_66 ?_
        obtain ⟨x39, σ38, c40, h⟩ := obn_r h
        refine c_V (As := [.int (0 : Int32), .int (100000 : Int32)]) (rest := []) E hW (m_X7_number c40) g13 rfl kw_1073 wv_X7_number yo_X7_number ⟨rfl, rfl⟩ ⟨(Nat.le_of_ble_eq_true rfl), (Nat.le_of_ble_eq_true rfl)⟩ (lv_size hl) (Nat.le_of_ble_eq_true rfl) ⟨(Nat.le_of_ble_eq_true rfl), (Nat.le_of_ble_eq_true rfl)⟩ rfl dX7_statement_68 (fun H locs hW => ?_)
        refine W.eq (g2 := F0 m 71 ls [.int x39]) rfl ?_
        refine lv_istore_n (lv' := [(3, .int x39), (0, .ref (G.2.2.2 + q10)), (2, .int x11)]) E.1 E.2.1 dX7_statement_71 rfl hl (by decide) rfl (fun ls hl => ?_)
        refine lv_aload_n E.1 E.2.1 dX7_statement_72 rfl (lv_at hl 1 rfl) ?_
        refine gf_X7_46 E hW g13 dX7_statement_73 ?_
        refine lv_iconst (v := (0 : Int32)) E.1 E.2.1 dX7_statement_76 (by decide) ?_
        obtain ⟨g41, h⟩ := gd_r h
        refine r_aald (t := 3) (ty := .array .long) E hW (pr_eq g41.1) g41.2 rfl rfl (by decide) dX7_statement_77 ?_
        refine lv_bipush (v := (10 : Int32)) E.1 E.2.1 dX7_statement_78 (by decide) ?_
        refine lv_dup2_11 E.1 E.2.1 dX7_statement_80 rfl rfl ?_
        obtain ⟨g42, h⟩ := gd_r h
        refine r_lald E hW (pr_eq g42.1) g42.2 dX7_statement_81 ?_
        refine lv_iload_n E.1 E.2.1 dX7_statement_82 rfl (lv_at hl 0 rfl) ?_
        refine lv_i2l E.1 E.2.1 dX7_statement_83 rfl ?_
        refine lv_lsub E.1 E.2.1 dX7_statement_84 ?_
        refine r_last E hW (pr_eq g42.1) g42.2 dX7_statement_85 (fun σ43 H locs eσ43 hW => ?_)
        have h := bnd_r eσ43 h
        refine lv_aload_n E.1 E.2.1 dX7_statement_86 rfl (lv_at hl 1 rfl) ?_
        refine gf_X7_46 E hW g13 dX7_statement_87 ?_
        refine lv_iconst (v := (0 : Int32)) E.1 E.2.1 dX7_statement_90 (by decide) ?_
        refine r_aald (t := 3) (ty := .array .long) E hW (pr_eq g41.1) g41.2 rfl rfl (by decide) dX7_statement_91 ?_
        refine lv_bipush (v := (11 : Int32)) E.1 E.2.1 dX7_statement_92 (by decide) ?_
        refine lv_dup2_11 E.1 E.2.1 dX7_statement_94 rfl rfl ?_
        obtain ⟨g44, h⟩ := gd_r h
        refine r_lald E hW (pr_eq g44.1) g44.2 dX7_statement_95 ?_
        refine lv_iload_n E.1 E.2.1 dX7_statement_96 rfl (lv_at hl 0 rfl) ?_
        refine lv_i2l E.1 E.2.1 dX7_statement_97 rfl ?_
        refine lv_ladd E.1 E.2.1 dX7_statement_98 ?_
        refine r_last E hW (pr_eq g44.1) g44.2 dX7_statement_99 (fun σ45 H locs eσ45 hW => ?_)
        have h := bnd_r eσ45 h
        refine lv_aload_n E.1 E.2.1 dX7_statement_100 rfl (lv_at hl 1 rfl) ?_
        obtain ⟨x47, σ46, c48, h⟩ := obn_r h
        refine c_V (As := []) (rest := []) E hW (m_X7_isGood c48) g13 rfl kw_1024 wv_X7_isGood yo_X7_isGood ⟨rfl, rfl⟩ ⟨(Nat.le_of_ble_eq_true rfl), (Nat.le_of_ble_eq_true rfl)⟩ (lv_size hl) (Nat.le_of_ble_eq_true rfl) ⟨(Nat.le_of_ble_eq_true rfl), (Nat.le_of_ble_eq_true rfl)⟩ rfl dX7_statement_101 (fun H locs hW => ?_)
        refine W.eq (g2 := F0 m 104 ls [.int x47]) rfl ?_
        refine lv_if_eq (tgt := 120) E.1 E.2.1 dX7_statement_104 (by decide) (fun g => ?_) (fun g => ?_)
        · have h := ifp h g
          exact hJ24 _ _ _ _ _ _ h hW (lv_sub hl [1, 2] rfl)
        · have h := ifn h g
          refine lv_aload_n E.1 E.2.1 dX7_statement_107 rfl (lv_at hl 1 rfl) ?_
          refine lv_aload_n E.1 E.2.1 dX7_statement_108 rfl (lv_at hl 1 rfl) ?_
          refine gf_X7_46 E hW g13 dX7_statement_109 ?_
          refine lv_iconst (v := (0 : Int32)) E.1 E.2.1 dX7_statement_112 (by decide) ?_
          refine r_aald (t := 3) (ty := .array .long) E hW (pr_eq g41.1) g41.2 rfl rfl (by decide) dX7_statement_113 ?_
          obtain ⟨x50, σ49, c51, h⟩ := obn_r h
          refine c_S (As := [.ref (G.2.2.2 + (rR (rR q10 18) (0 : Int32).toNatClampNeg))]) (rest := [.ref (G.2.2.2 + q10)]) E hW (m_X7_isSmall c51) kw_1131 ws_X7_isSmall yo_X7_isSmall ⟨rfl, rfl⟩ ⟨(Nat.le_of_ble_eq_true rfl), (Nat.le_of_ble_eq_true rfl)⟩ (lv_size hl) (Nat.le_of_ble_eq_true rfl) ⟨(Nat.le_of_ble_eq_true rfl), (Nat.le_of_ble_eq_true rfl)⟩ rfl dX7_statement_114 (fun H locs hW => ?_)
          refine W.eq (g2 := F0 m 117 ls [.int x50, .ref (G.2.2.2 + q10)]) rfl ?_
          obtain ⟨_r, σ52, c53, h⟩ := obn_r h
          refine c_V (As := [.int x50]) (rest := []) E hW (m_X7_refuse c53) g13 rfl kw_1136 wv_X7_refuse yo_X7_refuse ⟨rfl, rfl⟩ ⟨(Nat.le_of_ble_eq_true rfl), (Nat.le_of_ble_eq_true rfl)⟩ (lv_size hl) (Nat.le_of_ble_eq_true rfl) ⟨(Nat.le_of_ble_eq_true rfl), (Nat.le_of_ble_eq_true rfl)⟩ rfl dX7_statement_117 (fun H locs hW => ?_)
          refine W.eq (g2 := F0 m 120 ls []) rfl ?_
          exact hJ24 _ _ _ _ _ _ h hW (lv_sub hl [1, 2] rfl)
  refine lv_icmp_ne (tgt := 27) E.1 E.2.1 dX7_statement_17 (by decide) (fun g => ?_) (fun g => ?_)
  · have h := ifn h g
    exact hJ12 _ _ _ _ _ _ h hW (lv_sub hl [2, 0] rfl)
  · have h := ifp h g
    refine lv_aload_n E.1 E.2.1 dX7_statement_20 rfl (lv_at hl 2 rfl) ?_
    refine lv_bipush (v := (-2 : Int32)) E.1 E.2.1 dX7_statement_21 (by decide) ?_
    refine lv_iload_n E.1 E.2.1 dX7_statement_23 rfl (lv_at hl 1 rfl) ?_
    obtain ⟨_r, σ54, c55, h⟩ := obn_r h
    refine c_V (As := [.int (-2 : Int32), .int x5]) (rest := []) E hW (m_X7_report c55) g1 rfl kw_1038 wv_X7_report yo_X7_report ⟨rfl, rfl⟩ ⟨(Nat.le_of_ble_eq_true rfl), (Nat.le_of_ble_eq_true rfl)⟩ (lv_size hl) (Nat.le_of_ble_eq_true rfl) ⟨(Nat.le_of_ble_eq_true rfl), (Nat.le_of_ble_eq_true rfl)⟩ rfl dX7_statement_24 (fun H locs hW => ?_)
    refine W.eq (g2 := F0 m 27 ls []) rfl ?_
    exact hJ12 _ _ _ _ _ _ h hW (lv_sub hl [2, 0] rfl)
set_option maxHeartbeats 4000000 in
set_option maxRecDepth 100000 in
theorem L_X7_remember_11 {p : Program} {l : Launch} {e : Env} {s : State} {m : MethodId} {args : Array Value} {below : List Frame} {meth : Method} {c : Code} {G : GP} {A0 : Nat → Prop} {σ0 : St} {r0 : Unit} {K40 : Nat → St → Option (Unit × St)} (E : En p m c s cX7_remember 2 yX7_remember.cls G A0) (hr : meth.sig.returnType = none) (hlk : meth.locks = false) (hK40 : ∀ (q14 : Nat) (σ13 : St) (H : Heap) (locs : List Loc) (ls : Array Slot), K40 q14 σ13 = some (r0, σ0) → Wo G skR A0 s σ13 H locs → lv_has ls 2 [(0, .ref (G.2.2.2 + q14))] → W p l e ({ frames := 1, cells := 0, slots := 0, locals := 22 } : Room) s m args below meth c H locs 0 0 (MQ below (QO (PoC G skR σ0) A0 none) args s 0 0 A0) (F0 m 40 ls [])) : ∀ (n15 : Nat) (q11 : Nat) (x12 : Int32) (σ10 : St) (H : Heap) (locs : List Loc) (ls : Array Slot), f_X7_remember_L11 K40 n15 q11 x12 σ10 = some (r0, σ0) → Wo G skR A0 s σ10 H locs → lv_has ls 2 [(0, .ref (G.2.2.2 + q11)), (1, .int x12)] → W p l e ({ frames := 1, cells := 0, slots := 0, locals := 22 } : Room) s m args below meth c H locs 0 0 (MQ below (QO (PoC G skR σ0) A0 none) args s 0 0 A0) (F0 m 11 ls []) := by
  intro n15
  induction n15 with
  | zero =>
    intro q11 x12 σ10 H locs ls h hW hl
    rw [f_X7_remember_L11] at h
    cases h
  | succ n15 ih =>
    intro q11 x12 σ10 H locs ls h hW hl
    rw [f_X7_remember_L11] at h
    refine lv_iload_n E.1 E.2.1 dX7_remember_11 rfl (lv_at hl 1 rfl) ?_
    refine lv_bipush (v := (8 : Int32)) E.1 E.2.1 dX7_remember_12 (by decide) ?_
    refine lv_icmp_ge (tgt := 40) E.1 E.2.1 dX7_remember_14 (by decide) (fun g => ?_) (fun g => ?_)
    · have h := ifp h g
      exact hK40 _ _ _ _ _ h hW (lv_sub hl [0] rfl)
    · have h := ifn h g
      refine lv_aload_n E.1 E.2.1 dX7_remember_17 rfl (lv_at hl 0 rfl) ?_
      obtain ⟨g16, h⟩ := gd_r h
      refine gf_X7_25 E hW g16 dX7_remember_18 ?_
      refine lv_iload_n E.1 E.2.1 dX7_remember_21 rfl (lv_at hl 1 rfl) ?_
      obtain ⟨g17, h⟩ := gd_r h
      refine r_aald (t := 2) (ty := .array .int) E hW (pr_eq g17.1) g17.2 rfl rfl (by decide) dX7_remember_22 ?_
      refine lv_aload_n E.1 E.2.1 dX7_remember_23 rfl (lv_at hl 0 rfl) ?_
      refine gf_X7_25 E hW g16 dX7_remember_24 ?_
      refine lv_iload_n E.1 E.2.1 dX7_remember_27 rfl (lv_at hl 1 rfl) ?_
      refine lv_iconst (v := (1 : Int32)) E.1 E.2.1 dX7_remember_28 (by decide) ?_
      refine lv_isub E.1 E.2.1 dX7_remember_29 ?_
      obtain ⟨g18, h⟩ := gd_r h
      refine r_aald (t := 2) (ty := .array .int) E hW (pr_eq g18.1) g18.2 rfl rfl (by decide) dX7_remember_30 ?_
      obtain ⟨_r, σ19, c20, h⟩ := obn_r h
      refine c_S (As := [.ref (G.2.2.2 + (rR (rR q11 10) x12.toNatClampNeg)), .ref (G.2.2.2 + (rR (rR q11 10) (x12 - (1 : Int32)).toNatClampNeg))]) (rest := []) E hW (m_X7_copy c20) kw_1189 ws_X7_copy yo_X7_copy ⟨rfl, rfl⟩ ⟨(Nat.le_of_ble_eq_true rfl), (Nat.le_of_ble_eq_true rfl)⟩ (lv_size hl) (Nat.le_of_ble_eq_true rfl) ⟨(Nat.le_of_ble_eq_true rfl), (Nat.le_of_ble_eq_true rfl)⟩ rfl dX7_remember_31 (fun H locs hW => ?_)
      refine W.eq (g2 := F0 m 34 ls []) rfl ?_
      obtain ⟨x21, ex21⟩ : ∃ y : Int32, y = x12 + (1 : Int32) := ⟨_, rfl⟩
      have h := bnd_r ex21 h
      refine lv_iinc (v := x21) (lv' := [(1, .int x21), (0, .ref (G.2.2.2 + q11))]) E.1 E.2.1 dX7_remember_34 hl (k := 1) rfl (by rw [ex21]; rfl) (by decide) rfl (fun ls hl => ?_)
      refine lv_goto (tgt := 11) E.1 E.2.1 dX7_remember_37 (by decide) ?_
      exact ih _ _ _ _ _ _ h hW (lv_sub hl [1, 0] rfl)
set_option maxHeartbeats 4000000 in
set_option maxRecDepth 100000 in
theorem m_X7_remember {l : Launch} {G : GP} {sz : Nat} {q0 : Nat} {σ σ0 : St} {r0 : Unit} (h : f_X7_remember q0 σ = some (r0, σ0)) : Met l yX7_remember [.code yX7_remember cX7_remember 2 none] ({ frames := 1, cells := 0, slots := 0, locals := 22 } : Room) (va_Pc [.ref (G.2.2.2 + q0)] (PreC G skR sz σ)) (QO (PoC G skR σ0) (Aw G.2.2.2 skR.1 sz) none) 0 0 (Aw G.2.2.2 skR.1 sz) := by
  refine mkMet (by decide +kernel) (Nat.le_of_ble_eq_true rfl) skR_ok ?_
  intro p e s m below meth c ls E hW hl hr hlk
  have hl : lv_has ls 2 [(0, .ref (G.2.2.2 + q0))] := hl
  generalize Aw G.2.2.2 skR.1 s.heap.size = A0 at E hW ⊢
  generalize ([.ref (G.2.2.2 + q0)] : List Value).toArray = args
  unfold f_X7_remember at h
  refine lv_aload_n E.1 E.2.1 dX7_remember_0 rfl (lv_at hl 0 rfl) ?_
  obtain ⟨g1, h⟩ := gd_r h
  refine gf_X7_322 E hW g1 dX7_remember_1 ?_
  refine lv_bipush (v := (8 : Int32)) E.1 E.2.1 dX7_remember_4 (by decide) ?_
  obtain ⟨J4, eJ4, h⟩ := bnd_x h
  have hJ4 : ∀ (q3 : Nat) (σ2 : St) (H : Heap) (locs : List Loc) (ls : Array Slot), J4 q3 σ2 = some (r0, σ0) → Wo G skR A0 s σ2 H locs → lv_has ls 2 [(0, .ref (G.2.2.2 + q3))] → W p l e ({ frames := 1, cells := 0, slots := 0, locals := 22 } : Room) s m args below meth c H locs 0 0 (MQ below (QO (PoC G skR σ0) A0 none) args s 0 0 A0) (F0 m 50 ls []) := by
    intro q3 σ2 H locs ls h hW hl
    have h := jr2 eJ4 h
    refine lv_aload_n E.1 E.2.1 dX7_remember_50 rfl (lv_at hl 0 rfl) ?_
    obtain ⟨g5, h⟩ := gd_r h
    refine gf_X7_17 E hW g5 dX7_remember_51 ?_
    refine lv_aload_n E.1 E.2.1 dX7_remember_54 rfl (lv_at hl 0 rfl) ?_
    refine gf_X7_25 E hW g5 dX7_remember_55 ?_
    refine lv_aload_n E.1 E.2.1 dX7_remember_58 rfl (lv_at hl 0 rfl) ?_
    refine gf_X7_322 E hW g5 dX7_remember_59 ?_
    obtain ⟨g6, h⟩ := gd_r h
    refine r_aald (t := 2) (ty := .array .int) E hW (pr_eq g6.1) g6.2 rfl rfl (by decide) dX7_remember_62 ?_
    obtain ⟨_r, σ7, c8, h⟩ := obn_r h
    refine c_S (As := [.ref (G.2.2.2 + (rR q3 8)), .ref (G.2.2.2 + (rR (rR q3 10) (σ2.1 q3 11).toNatClampNeg))]) (rest := []) E hW (m_X7_copy c8) kw_1189 ws_X7_copy yo_X7_copy ⟨rfl, rfl⟩ ⟨(Nat.le_of_ble_eq_true rfl), (Nat.le_of_ble_eq_true rfl)⟩ (lv_size hl) (Nat.le_of_ble_eq_true rfl) ⟨(Nat.le_of_ble_eq_true rfl), (Nat.le_of_ble_eq_true rfl)⟩ rfl dX7_remember_63 (fun H locs hW => ?_)
    refine W.eq (g2 := F0 m 66 ls []) rfl ?_
    refine lv_aload_n E.1 E.2.1 dX7_remember_66 rfl (lv_at hl 0 rfl) ?_
    refine lv_dup E.1 E.2.1 dX7_remember_67 rfl ?_
    refine gf_X7_322 E hW g5 dX7_remember_68 ?_
    refine lv_iconst (v := (1 : Int32)) E.1 E.2.1 dX7_remember_71 (by decide) ?_
    refine lv_iadd E.1 E.2.1 dX7_remember_72 ?_
    refine pf_X7_322 E hW g5 dX7_remember_73 (fun σ9 H locs eσ9 hW => ?_)
    have h := bnd_r eσ9 h
    exact e_v E hW hr hlk h dX7_remember_76
  refine lv_icmp_ne (tgt := 50) E.1 E.2.1 dX7_remember_6 (by decide) (fun g => ?_) (fun g => ?_)
  · have h := ifn h g
    exact hJ4 _ _ _ _ _ h hW (lv_sub hl [0] rfl)
  · have h := ifp h g
    refine lv_iconst (v := (1 : Int32)) E.1 E.2.1 dX7_remember_9 (by decide) ?_
    refine lv_istore_n (lv' := [(1, .int (1 : Int32)), (0, .ref (G.2.2.2 + q0))]) E.1 E.2.1 dX7_remember_10 rfl hl (by decide) rfl (fun ls hl => ?_)
    refine L_X7_remember_11 E hr hlk ?_ _ _ _ _ _ _ _ h hW (lv_sub hl [1, 0] rfl)
    · intro q14 σ13 H locs ls h hW hl
      refine lv_aload_n E.1 E.2.1 dX7_remember_40 rfl (lv_at hl 0 rfl) ?_
      refine lv_dup E.1 E.2.1 dX7_remember_41 rfl ?_
      obtain ⟨g22, h⟩ := gd_r h
      refine gf_X7_322 E hW g22 dX7_remember_42 ?_
      refine lv_iconst (v := (1 : Int32)) E.1 E.2.1 dX7_remember_45 (by decide) ?_
      refine lv_isub E.1 E.2.1 dX7_remember_46 ?_
      refine pf_X7_322 E hW g22 dX7_remember_47 (fun σ23 H locs eσ23 hW => ?_)
      have h := bnd_r eσ23 h
      exact hJ4 _ _ _ _ _ h hW (lv_sub hl [0] rfl)
set_option maxHeartbeats 4000000 in
set_option maxRecDepth 100000 in
theorem L_X7_load_64 {p : Program} {l : Launch} {e : Env} {s : State} {m : MethodId} {args : Array Value} {below : List Frame} {meth : Method} {c : Code} {G : GP} {A0 : Nat → Prop} {σ0 : St} {r0 : Int32} {K83 : Nat → St → Option (Int32 × St)} (E : En p m c s cX7_load 4 yX7_load.cls G A0) (hr : meth.sig.returnType = (some .int)) (hlk : meth.locks = false) (hK83 : ∀ (q27 : Nat) (σ26 : St) (H : Heap) (locs : List Loc) (ls : Array Slot), K83 q27 σ26 = some (r0, σ0) → Wo G skR A0 s σ26 H locs → lv_has ls 4 [(0, .ref (G.2.2.2 + q27))] → W p l e ({ frames := 74, cells := 0, slots := 0, locals := 2181 } : Room) s m args below meth c H locs 0 0 (MQ below (QO (PoC G skR σ0) A0 (some (.int r0))) args s 0 0 A0) (F0 m 83 ls [])) : ∀ (n28 : Nat) (q24 : Nat) (x25 : Int32) (σ23 : St) (H : Heap) (locs : List Loc) (ls : Array Slot), f_X7_load_L64 K83 n28 q24 x25 σ23 = some (r0, σ0) → Wo G skR A0 s σ23 H locs → lv_has ls 4 [(0, .ref (G.2.2.2 + q24)), (2, .int x25)] → W p l e ({ frames := 74, cells := 0, slots := 0, locals := 2181 } : Room) s m args below meth c H locs 0 0 (MQ below (QO (PoC G skR σ0) A0 (some (.int r0))) args s 0 0 A0) (F0 m 64 ls []) := by
  intro n28
  induction n28 with
  | zero =>
    intro q24 x25 σ23 H locs ls h hW hl
    rw [f_X7_load_L64] at h
    cases h
  | succ n28 ih =>
    intro q24 x25 σ23 H locs ls h hW hl
    rw [f_X7_load_L64] at h
    refine lv_iload_n E.1 E.2.1 dX7_load_64 rfl (lv_at hl 1 rfl) ?_
    refine lv_bipush (v := (97 : Int32)) E.1 E.2.1 dX7_load_65 (by decide) ?_
    refine lv_icmp_ge (tgt := 83) E.1 E.2.1 dX7_load_67 (by decide) (fun g => ?_) (fun g => ?_)
    · have h := ifp h g
      exact hK83 _ _ _ _ _ h hW (lv_sub hl [0] rfl)
    · have h := ifn h g
      refine lv_aload_n E.1 E.2.1 dX7_load_70 rfl (lv_at hl 0 rfl) ?_
      obtain ⟨g29, h⟩ := gd_r h
      refine gf_X7_20 E hW g29 dX7_load_71 ?_
      refine lv_iload_n E.1 E.2.1 dX7_load_74 rfl (lv_at hl 1 rfl) ?_
      refine lv_iconst (v := (0 : Int32)) E.1 E.2.1 dX7_load_75 (by decide) ?_
      obtain ⟨g30, h⟩ := gd_r h
      refine r_iast E hW (pr_eq g30.1) g30.2 dX7_load_76 (fun σ31 H locs eσ31 hW => ?_)
      have h := bnd_r eσ31 h
      obtain ⟨x32, ex32⟩ : ∃ y : Int32, y = x25 + (1 : Int32) := ⟨_, rfl⟩
      have h := bnd_r ex32 h
      refine lv_iinc (v := x32) (lv' := [(2, .int x32), (0, .ref (G.2.2.2 + q24))]) E.1 E.2.1 dX7_load_77 hl (k := 1) rfl (by rw [ex32]; rfl) (by decide) rfl (fun ls hl => ?_)
      refine lv_goto (tgt := 64) E.1 E.2.1 dX7_load_80 (by decide) ?_
      exact ih _ _ _ _ _ _ h hW (lv_sub hl [1, 0] rfl)
set_option maxHeartbeats 4000000 in
set_option maxRecDepth 100000 in
theorem L_X7_load_109 {p : Program} {l : Launch} {e : Env} {s : State} {m : MethodId} {args : Array Value} {below : List Frame} {meth : Method} {c : Code} {G : GP} {A0 : Nat → Prop} {σ0 : St} {r0 : Int32} {K131 : Nat → St → Option (Int32 × St)} (E : En p m c s cX7_load 4 yX7_load.cls G A0) (hr : meth.sig.returnType = (some .int)) (hlk : meth.locks = false) (hK131 : ∀ (q46 : Nat) (σ45 : St) (H : Heap) (locs : List Loc) (ls : Array Slot), K131 q46 σ45 = some (r0, σ0) → Wo G skR A0 s σ45 H locs → lv_has ls 4 [(0, .ref (G.2.2.2 + q46))] → W p l e ({ frames := 74, cells := 0, slots := 0, locals := 2181 } : Room) s m args below meth c H locs 0 0 (MQ below (QO (PoC G skR σ0) A0 (some (.int r0))) args s 0 0 A0) (F0 m 131 ls [])) : ∀ (n47 : Nat) (q44 : Nat) (σ43 : St) (H : Heap) (locs : List Loc) (ls : Array Slot), f_X7_load_L109 K131 n47 q44 σ43 = some (r0, σ0) → Wo G skR A0 s σ43 H locs → lv_has ls 4 [(0, .ref (G.2.2.2 + q44))] → W p l e ({ frames := 74, cells := 0, slots := 0, locals := 2181 } : Room) s m args below meth c H locs 0 0 (MQ below (QO (PoC G skR σ0) A0 (some (.int r0))) args s 0 0 A0) (F0 m 109 ls []) := by
  intro n47
  induction n47 with
  | zero =>
    intro q44 σ43 H locs ls h hW hl
    rw [f_X7_load_L109] at h
    cases h
  | succ n47 ih =>
    intro q44 σ43 H locs ls h hW hl
    rw [f_X7_load_L109] at h
    refine lv_aload_n E.1 E.2.1 dX7_load_109 rfl (lv_at hl 0 rfl) ?_
    obtain ⟨g48, h⟩ := gd_r h
    obtain ⟨x50, σ49, c51, h⟩ := obn_r h
    refine c_V (As := []) (rest := []) E hW (m_X7_isGood c51) g48 rfl kw_1024 wv_X7_isGood yo_X7_isGood ⟨rfl, rfl⟩ ⟨(Nat.le_of_ble_eq_true rfl), (Nat.le_of_ble_eq_true rfl)⟩ (lv_size hl) (Nat.le_of_ble_eq_true rfl) ⟨(Nat.le_of_ble_eq_true rfl), (Nat.le_of_ble_eq_true rfl)⟩ rfl dX7_load_110 (fun H locs hW => ?_)
    refine W.eq (g2 := F0 m 113 ls [.int x50]) rfl ?_
    refine lv_if_eq (tgt := 131) E.1 E.2.1 dX7_load_113 (by decide) (fun g => ?_) (fun g => ?_)
    · have h := ifp h g
      exact hK131 _ _ _ _ _ h hW (lv_sub hl [0] rfl)
    · have h := ifn h g
      refine lv_aload_n E.1 E.2.1 dX7_load_116 rfl (lv_at hl 0 rfl) ?_
      obtain ⟨x53, σ52, c54, h⟩ := obn_r h
      refine c_V (As := []) (rest := []) E hW (m_X7_next c54) g48 rfl kw_1028 wv_X7_next yo_X7_next ⟨rfl, rfl⟩ ⟨(Nat.le_of_ble_eq_true rfl), (Nat.le_of_ble_eq_true rfl)⟩ (lv_size hl) (Nat.le_of_ble_eq_true rfl) ⟨(Nat.le_of_ble_eq_true rfl), (Nat.le_of_ble_eq_true rfl)⟩ rfl dX7_load_117 (fun H locs hW => ?_)
      refine W.eq (g2 := F0 m 120 ls [.int x53]) rfl ?_
      refine lv_iconst (v := (-1 : Int32)) E.1 E.2.1 dX7_load_120 (by decide) ?_
      refine lv_icmp_eq (tgt := 131) E.1 E.2.1 dX7_load_121 (by decide) (fun g => ?_) (fun g => ?_)
      · have h := ifp h g
        exact hK131 _ _ _ _ _ h hW (lv_sub hl [0] rfl)
      · have h := ifn h g
        refine lv_aload_n E.1 E.2.1 dX7_load_124 rfl (lv_at hl 0 rfl) ?_
        obtain ⟨_r, σ55, c56, h⟩ := obn_r h
        refine c_V (As := []) (rest := []) E hW (m_X7_statement c56) g48 rfl kw_1046 wv_X7_statement yo_X7_statement ⟨rfl, rfl⟩ ⟨(Nat.le_of_ble_eq_true rfl), (Nat.le_of_ble_eq_true rfl)⟩ (lv_size hl) (Nat.le_of_ble_eq_true rfl) ⟨(Nat.le_of_ble_eq_true rfl), (Nat.le_of_ble_eq_true rfl)⟩ rfl dX7_load_125 (fun H locs hW => ?_)
        refine W.eq (g2 := F0 m 128 ls []) rfl ?_
        refine lv_goto (tgt := 109) E.1 E.2.1 dX7_load_128 (by decide) ?_
        exact ih _ _ _ _ _ h hW (lv_sub hl [0] rfl)
set_option maxHeartbeats 4000000 in
set_option maxRecDepth 100000 in
theorem L_X7_load_170 {p : Program} {l : Launch} {e : Env} {s : State} {m : MethodId} {args : Array Value} {below : List Frame} {meth : Method} {c : Code} {G : GP} {A0 : Nat → Prop} {σ0 : St} {r0 : Int32} (E : En p m c s cX7_load 4 yX7_load.cls G A0) (hr : meth.sig.returnType = (some .int)) (hlk : meth.locks = false) : ∀ (n70 : Nat) (q67 : Nat) (x68 : Int32) (x69 : Int32) (σ66 : St) (H : Heap) (locs : List Loc) (ls : Array Slot), f_X7_load_L170 n70 q67 x68 x69 σ66 = some (r0, σ0) → Wo G skR A0 s σ66 H locs → lv_has ls 4 [(0, .ref (G.2.2.2 + q67)), (2, .int x68), (3, .int x69)] → W p l e ({ frames := 74, cells := 0, slots := 0, locals := 2181 } : Room) s m args below meth c H locs 0 0 (MQ below (QO (PoC G skR σ0) A0 (some (.int r0))) args s 0 0 A0) (F0 m 170 ls []) := by
  intro n70
  induction n70 with
  | zero =>
    intro q67 x68 x69 σ66 H locs ls h hW hl
    rw [f_X7_load_L170] at h
    cases h
  | succ n70 ih =>
    intro q67 x68 x69 σ66 H locs ls h hW hl
    rw [f_X7_load_L170] at h
    refine lv_iload_n E.1 E.2.1 dX7_load_170 rfl (lv_at hl 2 rfl) ?_
    refine lv_bipush (v := (8 : Int32)) E.1 E.2.1 dX7_load_171 (by decide) ?_
    refine lv_icmp_ge (tgt := 195) E.1 E.2.1 dX7_load_173 (by decide) (fun g => ?_) (fun g => ?_)
    · have h := ifp h g
      refine lv_iload_n E.1 E.2.1 dX7_load_195 rfl (lv_at hl 1 rfl) ?_
      exact e_i E hW hr hlk h dX7_load_196
    · have h := ifn h g
      refine lv_iload_n E.1 E.2.1 dX7_load_176 rfl (lv_at hl 1 rfl) ?_
      refine lv_aload_n E.1 E.2.1 dX7_load_177 rfl (lv_at hl 0 rfl) ?_
      obtain ⟨g71, h⟩ := gd_r h
      refine gf_X7_17 E hW g71 dX7_load_178 ?_
      refine lv_iconst (v := (0 : Int32)) E.1 E.2.1 dX7_load_181 (by decide) ?_
      obtain ⟨g72, h⟩ := gd_r h
      refine r_iald E hW (pr_eq g72.1) g72.2 dX7_load_182 ?_
      refine lv_iload_n E.1 E.2.1 dX7_load_183 rfl (lv_at hl 2 rfl) ?_
      refine lv_ishr E.1 E.2.1 dX7_load_184 ?_
      refine lv_iconst (v := (1 : Int32)) E.1 E.2.1 dX7_load_185 (by decide) ?_
      refine lv_iand E.1 E.2.1 dX7_load_186 ?_
      refine lv_iadd E.1 E.2.1 dX7_load_187 ?_
      refine lv_topi (fun x73 ex73 => ?_)
      have h := bnd_r ex73 h
      refine lv_istore_n (lv' := [(2, .int x73), (0, .ref (G.2.2.2 + q67)), (3, .int x69)]) E.1 E.2.1 dX7_load_188 rfl hl (by decide) rfl (fun ls hl => ?_)
      obtain ⟨x74, ex74⟩ : ∃ y : Int32, y = x69 + (1 : Int32) := ⟨_, rfl⟩
      have h := bnd_r ex74 h
      refine lv_iinc (v := x74) (lv' := [(3, .int x74), (2, .int x73), (0, .ref (G.2.2.2 + q67))]) E.1 E.2.1 dX7_load_189 hl (k := 2) rfl (by rw [ex74]; rfl) (by decide) rfl (fun ls hl => ?_)
      refine lv_goto (tgt := 170) E.1 E.2.1 dX7_load_192 (by decide) ?_
      exact ih _ _ _ _ _ _ _ h hW (lv_sub hl [2, 1, 0] rfl)
set_option maxHeartbeats 4000000 in
set_option maxRecDepth 100000 in
theorem m_X7_load {l : Launch} {G : GP} {sz : Nat} {q0 : Nat} {a1 : Int32} {σ σ0 : St} {r0 : Int32} (h : f_X7_load q0 a1 σ = some (r0, σ0)) : Met l yX7_load [.code yX7_load cX7_load 4 (some .int)] ({ frames := 74, cells := 0, slots := 0, locals := 2181 } : Room) (va_Pc [.ref (G.2.2.2 + q0), .int a1] (PreC G skR sz σ)) (QO (PoC G skR σ0) (Aw G.2.2.2 skR.1 sz) (some (.int r0))) 0 0 (Aw G.2.2.2 skR.1 sz) := by
  refine mkMet (by decide +kernel) (Nat.le_of_ble_eq_true rfl) skR_ok ?_
  intro p e s m below meth c ls E hW hl hr hlk
  have hl : lv_has ls 4 [(0, .ref (G.2.2.2 + q0)), (1, .int a1)] := hl
  generalize Aw G.2.2.2 skR.1 s.heap.size = A0 at E hW ⊢
  generalize ([.ref (G.2.2.2 + q0), .int a1] : List Value).toArray = args
  unfold f_X7_load at h
  refine lv_aload_n E.1 E.2.1 dX7_load_0 rfl (lv_at hl 0 rfl) ?_
  refine lv_iconst (v := (0 : Int32)) E.1 E.2.1 dX7_load_1 (by decide) ?_
  obtain ⟨g1, h⟩ := gd_r h
  refine pf_X7_79 E hW g1 dX7_load_2 (fun σ2 H locs eσ2 hW => ?_)
  have h := bnd_r eσ2 h
  refine lv_aload_n E.1 E.2.1 dX7_load_5 rfl (lv_at hl 0 rfl) ?_
  refine lv_iload_n E.1 E.2.1 dX7_load_6 rfl (lv_at hl 1 rfl) ?_
  refine lv_iconst (v := (0 : Int32)) E.1 E.2.1 dX7_load_7 (by decide) ?_
  refine lv_aload_n E.1 E.2.1 dX7_load_8 rfl (lv_at hl 0 rfl) ?_
  refine gf_X7_161 E hW g1 dX7_load_9 ?_
  obtain ⟨x4, σ3, c5, h⟩ := obn_r h
  refine c_S (As := [.int a1, .int (0 : Int32), .int (σ2.1 q0 2)]) (rest := [.ref (G.2.2.2 + q0)]) E hW (m_X7_in c5) kw_1012 ws_X7_in yo_X7_in ⟨rfl, rfl⟩ ⟨(Nat.le_of_ble_eq_true rfl), (Nat.le_of_ble_eq_true rfl)⟩ (lv_size hl) (Nat.le_of_ble_eq_true rfl) ⟨(Nat.le_of_ble_eq_true rfl), (Nat.le_of_ble_eq_true rfl)⟩ rfl dX7_load_12 (fun H locs hW => ?_)
  refine W.eq (g2 := F0 m 15 ls [.int x4, .ref (G.2.2.2 + q0)]) rfl ?_
  obtain ⟨J11, eJ11, h⟩ := bnd_x h
  have hJ11 : ∀ (q7 : Nat) (x8 : Int32) (x9 : Int32) (q10 : Nat) (σ6 : St) (H : Heap) (locs : List Loc) (ls : Array Slot), J11 q7 x8 x9 q10 σ6 = some (r0, σ0) → Wo G skR A0 s σ6 H locs → lv_has ls 4 [(0, .ref (G.2.2.2 + q7)), (1, .int x8)] → W p l e ({ frames := 74, cells := 0, slots := 0, locals := 2181 } : Room) s m args below meth c H locs 0 0 (MQ below (QO (PoC G skR σ0) A0 (some (.int r0))) args s 0 0 A0) (F0 m 23 ls [.int x9, .ref (G.2.2.2 + q10)]) := by
    intro q7 x8 x9 q10 σ6 H locs ls h hW hl
    have h := jr5 eJ11 h
    refine lv_iconst (v := (1 : Int32)) E.1 E.2.1 dX7_load_23 (by decide) ?_
    obtain ⟨g12, h⟩ := gd_r h
    obtain ⟨x14, σ13, c15, h⟩ := obn_r h
    refine c_V (As := [.int x9, .int (1 : Int32)]) (rest := []) E hW (m_X7_fails c15) g12 rfl kw_1015 wv_X7_fails yo_X7_fails ⟨rfl, rfl⟩ ⟨(Nat.le_of_ble_eq_true rfl), (Nat.le_of_ble_eq_true rfl)⟩ (lv_size hl) (Nat.le_of_ble_eq_true rfl) ⟨(Nat.le_of_ble_eq_true rfl), (Nat.le_of_ble_eq_true rfl)⟩ rfl dX7_load_24 (fun H locs hW => ?_)
    refine W.eq (g2 := F0 m 27 ls [.int x14]) rfl ?_
    refine lv_if_eq (tgt := 32) E.1 E.2.1 dX7_load_27 (by decide) (fun g => ?_) (fun g => ?_)
    · have h := ifp h g
      refine lv_aload_n E.1 E.2.1 dX7_load_32 rfl (lv_at hl 0 rfl) ?_
      refine lv_iconst (v := (0 : Int32)) E.1 E.2.1 dX7_load_33 (by decide) ?_
      obtain ⟨g16, h⟩ := gd_r h
      refine pf_X7_161 E hW g16 dX7_load_34 (fun σ17 H locs eσ17 hW => ?_)
      have h := bnd_r eσ17 h
      refine lv_aload_n E.1 E.2.1 dX7_load_37 rfl (lv_at hl 0 rfl) ?_
      refine lv_iload_n E.1 E.2.1 dX7_load_38 rfl (lv_at hl 1 rfl) ?_
      refine pf_X7_164 E hW g16 dX7_load_39 (fun σ18 H locs eσ18 hW => ?_)
      have h := bnd_r eσ18 h
      refine lv_aload_n E.1 E.2.1 dX7_load_42 rfl (lv_at hl 0 rfl) ?_
      refine lv_iconst (v := (0 : Int32)) E.1 E.2.1 dX7_load_43 (by decide) ?_
      refine pf_X7_167 E hW g16 dX7_load_44 (fun σ19 H locs eσ19 hW => ?_)
      have h := bnd_r eσ19 h
      refine lv_aload_n E.1 E.2.1 dX7_load_47 rfl (lv_at hl 0 rfl) ?_
      refine lv_iconst (v := (0 : Int32)) E.1 E.2.1 dX7_load_48 (by decide) ?_
      refine pf_X7_173 E hW g16 dX7_load_49 (fun σ20 H locs eσ20 hW => ?_)
      have h := bnd_r eσ20 h
      refine lv_aload_n E.1 E.2.1 dX7_load_52 rfl (lv_at hl 0 rfl) ?_
      refine lv_iconst (v := (-1 : Int32)) E.1 E.2.1 dX7_load_53 (by decide) ?_
      refine pf_X7_176 E hW g16 dX7_load_54 (fun σ21 H locs eσ21 hW => ?_)
      have h := bnd_r eσ21 h
      refine lv_aload_n E.1 E.2.1 dX7_load_57 rfl (lv_at hl 0 rfl) ?_
      refine lv_iconst (v := (0 : Int32)) E.1 E.2.1 dX7_load_58 (by decide) ?_
      refine pf_X7_215 E hW g16 dX7_load_59 (fun σ22 H locs eσ22 hW => ?_)
      have h := bnd_r eσ22 h
      refine lv_iconst (v := (0 : Int32)) E.1 E.2.1 dX7_load_62 (by decide) ?_
      refine lv_istore_n (lv' := [(2, .int (0 : Int32)), (0, .ref (G.2.2.2 + q7)), (1, .int x8)]) E.1 E.2.1 dX7_load_63 rfl hl (by decide) rfl (fun ls hl => ?_)
      refine L_X7_load_64 E hr hlk ?_ _ _ _ _ _ _ _ h hW (lv_sub hl [1, 0] rfl)
      · intro q27 σ26 H locs ls h hW hl
        refine lv_aload_n E.1 E.2.1 dX7_load_83 rfl (lv_at hl 0 rfl) ?_
        refine r_ldcSW E 5 (by decide) ⟨rfl, rfl⟩ dX7_load_84 ?_
        obtain ⟨g33, h⟩ := gd_r h
        obtain ⟨x35, σ34, c36, h⟩ := obn_r h
        refine c_V (As := [.ref (G.2.2.1 5)]) (rest := []) E hW (m_X7_takeWord c36) g33 rfl kw_1020 wv_X7_takeWord yo_X7_takeWord ⟨rfl, rfl⟩ ⟨(Nat.le_of_ble_eq_true rfl), (Nat.le_of_ble_eq_true rfl)⟩ (lv_size hl) (Nat.le_of_ble_eq_true rfl) ⟨(Nat.le_of_ble_eq_true rfl), (Nat.le_of_ble_eq_true rfl)⟩ rfl dX7_load_87 (fun H locs hW => ?_)
        refine W.eq (g2 := F0 m 90 ls [.int x35]) rfl ?_
        obtain ⟨J39, eJ39, h⟩ := bnd_x h
        have hJ39 : ∀ (q38 : Nat) (σ37 : St) (H : Heap) (locs : List Loc) (ls : Array Slot), J39 q38 σ37 = some (r0, σ0) → Wo G skR A0 s σ37 H locs → lv_has ls 4 [(0, .ref (G.2.2.2 + q38))] → W p l e ({ frames := 74, cells := 0, slots := 0, locals := 2181 } : Room) s m args below meth c H locs 0 0 (MQ below (QO (PoC G skR σ0) A0 (some (.int r0))) args s 0 0 A0) (F0 m 103 ls []) := by
          intro q38 σ37 H locs ls h hW hl
          have h := jr2 eJ39 h
          refine lv_aload_n E.1 E.2.1 dX7_load_103 rfl (lv_at hl 0 rfl) ?_
          refine lv_bipush (v := (59 : Int32)) E.1 E.2.1 dX7_load_104 (by decide) ?_
          obtain ⟨g40, h⟩ := gd_r h
          obtain ⟨_r, σ41, c42, h⟩ := obn_r h
          refine c_V (As := [.int (59 : Int32)]) (rest := []) E hW (m_X7_expect c42) g40 rfl kw_1042 wv_X7_expect yo_X7_expect ⟨rfl, rfl⟩ ⟨(Nat.le_of_ble_eq_true rfl), (Nat.le_of_ble_eq_true rfl)⟩ (lv_size hl) (Nat.le_of_ble_eq_true rfl) ⟨(Nat.le_of_ble_eq_true rfl), (Nat.le_of_ble_eq_true rfl)⟩ rfl dX7_load_106 (fun H locs hW => ?_)
          refine W.eq (g2 := F0 m 109 ls []) rfl ?_
          refine L_X7_load_109 E hr hlk ?_ _ _ _ _ _ _ h hW (lv_sub hl [0] rfl)
          · intro q46 σ45 H locs ls h hW hl
            refine lv_aload_n E.1 E.2.1 dX7_load_131 rfl (lv_at hl 0 rfl) ?_
            refine lv_aload_n E.1 E.2.1 dX7_load_132 rfl (lv_at hl 0 rfl) ?_
            obtain ⟨g57, h⟩ := gd_r h
            refine gf_X7_176 E hW g57 dX7_load_133 ?_
            refine pf_X7_13 E hW g57 dX7_load_136 (fun σ58 H locs eσ58 hW => ?_)
            have h := bnd_r eσ58 h
            refine lv_aload_n E.1 E.2.1 dX7_load_139 rfl (lv_at hl 0 rfl) ?_
            obtain ⟨x60, σ59, c61, h⟩ := obn_r h
            refine c_V (As := []) (rest := []) E hW (m_X7_isGood c61) g57 rfl kw_1024 wv_X7_isGood yo_X7_isGood ⟨rfl, rfl⟩ ⟨(Nat.le_of_ble_eq_true rfl), (Nat.le_of_ble_eq_true rfl)⟩ (lv_size hl) (Nat.le_of_ble_eq_true rfl) ⟨(Nat.le_of_ble_eq_true rfl), (Nat.le_of_ble_eq_true rfl)⟩ rfl dX7_load_140 (fun H locs hW => ?_)
            refine W.eq (g2 := F0 m 143 ls [.int x60]) rfl ?_
            refine lv_if_ne (tgt := 151) E.1 E.2.1 dX7_load_143 (by decide) (fun g => ?_) (fun g => ?_)
            · have h := ifn h g
              refine lv_aload_n E.1 E.2.1 dX7_load_151 rfl (lv_at hl 0 rfl) ?_
              obtain ⟨_r, σ62, c63, h⟩ := obn_r h
              refine c_V (As := []) (rest := []) E hW (m_X7_remember c63) g57 rfl kw_1185 wv_X7_remember yo_X7_remember ⟨rfl, rfl⟩ ⟨(Nat.le_of_ble_eq_true rfl), (Nat.le_of_ble_eq_true rfl)⟩ (lv_size hl) (Nat.le_of_ble_eq_true rfl) ⟨(Nat.le_of_ble_eq_true rfl), (Nat.le_of_ble_eq_true rfl)⟩ rfl dX7_load_152 (fun H locs hW => ?_)
              refine W.eq (g2 := F0 m 155 ls []) rfl ?_
              refine lv_aload_n E.1 E.2.1 dX7_load_155 rfl (lv_at hl 0 rfl) ?_
              refine gf_X7_20 E hW g57 dX7_load_156 ?_
              refine lv_aload_n E.1 E.2.1 dX7_load_159 rfl (lv_at hl 0 rfl) ?_
              refine gf_X7_17 E hW g57 dX7_load_160 ?_
              obtain ⟨_r, σ64, c65, h⟩ := obn_r h
              refine c_S (As := [.ref (G.2.2.2 + (rR q46 9)), .ref (G.2.2.2 + (rR q46 8))]) (rest := []) E hW (m_X7_copy c65) kw_1189 ws_X7_copy yo_X7_copy ⟨rfl, rfl⟩ ⟨(Nat.le_of_ble_eq_true rfl), (Nat.le_of_ble_eq_true rfl)⟩ (lv_size hl) (Nat.le_of_ble_eq_true rfl) ⟨(Nat.le_of_ble_eq_true rfl), (Nat.le_of_ble_eq_true rfl)⟩ rfl dX7_load_163 (fun H locs hW => ?_)
              refine W.eq (g2 := F0 m 166 ls []) rfl ?_
              refine lv_iconst (v := (0 : Int32)) E.1 E.2.1 dX7_load_166 (by decide) ?_
              refine lv_istore_n (lv' := [(2, .int (0 : Int32)), (0, .ref (G.2.2.2 + q46))]) E.1 E.2.1 dX7_load_167 rfl hl (by decide) rfl (fun ls hl => ?_)
              refine lv_iconst (v := (0 : Int32)) E.1 E.2.1 dX7_load_168 (by decide) ?_
              refine lv_istore_n (lv' := [(3, .int (0 : Int32)), (2, .int (0 : Int32)), (0, .ref (G.2.2.2 + q46))]) E.1 E.2.1 dX7_load_169 rfl hl (by decide) rfl (fun ls hl => ?_)
              refine L_X7_load_170 E hr hlk _ _ _ _ _ _ _ _ h hW (lv_sub hl [2, 1, 0] rfl)
            · have h := ifp h g
              refine lv_aload_n E.1 E.2.1 dX7_load_146 rfl (lv_at hl 0 rfl) ?_
              refine gf_X7_173 E hW g57 dX7_load_147 ?_
              exact e_i E hW hr hlk h dX7_load_150
        refine lv_if_ne (tgt := 103) E.1 E.2.1 dX7_load_90 (by decide) (fun g => ?_) (fun g => ?_)
        · have h := ifn h g
          exact hJ39 _ _ _ _ _ h hW (lv_sub hl [0] rfl)
        · have h := ifp h g
          refine lv_aload_n E.1 E.2.1 dX7_load_93 rfl (lv_at hl 0 rfl) ?_
          refine lv_bipush (v := (-2 : Int32)) E.1 E.2.1 dX7_load_94 (by decide) ?_
          refine lv_aload_n E.1 E.2.1 dX7_load_96 rfl (lv_at hl 0 rfl) ?_
          refine gf_X7_167 E hW g33 dX7_load_97 ?_
          obtain ⟨_r, σ75, c76, h⟩ := obn_r h
          refine c_V (As := [.int (-2 : Int32), .int (σ34.1 q27 4)]) (rest := []) E hW (m_X7_report c76) g33 rfl kw_1038 wv_X7_report yo_X7_report ⟨rfl, rfl⟩ ⟨(Nat.le_of_ble_eq_true rfl), (Nat.le_of_ble_eq_true rfl)⟩ (lv_size hl) (Nat.le_of_ble_eq_true rfl) ⟨(Nat.le_of_ble_eq_true rfl), (Nat.le_of_ble_eq_true rfl)⟩ rfl dX7_load_100 (fun H locs hW => ?_)
          refine W.eq (g2 := F0 m 103 ls []) rfl ?_
          exact hJ39 _ _ _ _ _ h hW (lv_sub hl [0] rfl)
    · have h := ifn h g
      refine lv_iconst (v := (0 : Int32)) E.1 E.2.1 dX7_load_30 (by decide) ?_
      exact e_i E hW hr hlk h dX7_load_31
  refine lv_if_ne (tgt := 22) E.1 E.2.1 dX7_load_15 (by decide) (fun g => ?_) (fun g => ?_)
  · have h := ifn h g
    refine lv_iconst (v := (0 : Int32)) E.1 E.2.1 dX7_load_22 (by decide) ?_
    exact hJ11 _ _ _ _ _ _ _ _ h hW (lv_sub hl [0, 1] rfl)
  · have h := ifp h g
    refine lv_iconst (v := (1 : Int32)) E.1 E.2.1 dX7_load_18 (by decide) ?_
    refine lv_goto (tgt := 23) E.1 E.2.1 dX7_load_19 (by decide) ?_
    exact hJ11 _ _ _ _ _ _ _ _ h hW (lv_sub hl [0, 1] rfl)
set_option maxHeartbeats 4000000 in
set_option maxRecDepth 100000 in
theorem m_X7_errorOffset {l : Launch} {G : GP} {sz : Nat} {q0 : Nat} {σ σ0 : St} {r0 : Int32} (h : f_X7_errorOffset q0 σ = some (r0, σ0)) : Met l yX7_errorOffset [.code yX7_errorOffset cX7_errorOffset 1 (some .int)] ({ frames := 0, cells := 0, slots := 0, locals := 0 } : Room) (va_Pc [.ref (G.2.2.2 + q0)] (PreC G skR sz σ)) (QO (PoC G skR σ0) (Aw G.2.2.2 skR.1 sz) (some (.int r0))) 0 0 (Aw G.2.2.2 skR.1 sz) := by
  refine mkMet (by decide +kernel) (Nat.le_of_ble_eq_true rfl) skR_ok ?_
  intro p e s m below meth c ls E hW hl hr hlk
  have hl : lv_has ls 1 [(0, .ref (G.2.2.2 + q0))] := hl
  generalize Aw G.2.2.2 skR.1 s.heap.size = A0 at E hW ⊢
  generalize ([.ref (G.2.2.2 + q0)] : List Value).toArray = args
  unfold f_X7_errorOffset at h
  refine lv_aload_n E.1 E.2.1 dX7_errorOffset_0 rfl (lv_at hl 0 rfl) ?_
  refine lv_iconst (v := (0 : Int32)) E.1 E.2.1 dX7_errorOffset_1 (by decide) ?_
  obtain ⟨g1, h⟩ := gd_r h
  refine pf_X7_79 E hW g1 dX7_errorOffset_2 (fun σ2 H locs eσ2 hW => ?_)
  have h := bnd_r eσ2 h
  refine lv_aload_n E.1 E.2.1 dX7_errorOffset_5 rfl (lv_at hl 0 rfl) ?_
  refine gf_X7_13 E hW g1 dX7_errorOffset_6 ?_
  exact e_i E hW hr hlk h dX7_errorOffset_9
set_option maxHeartbeats 4000000 in
set_option maxRecDepth 100000 in
theorem m_X7_noIndex {l : Launch} {G : GP} {sz : Nat} {q0 : Nat} {a1 : Int32} {σ σ0 : St} {r0 : Int32} (h : f_X7_noIndex q0 a1 σ = some (r0, σ0)) : Met l yX7_noIndex [.code yX7_noIndex cX7_noIndex 2 (some .boolean)] ({ frames := 1, cells := 0, slots := 0, locals := 22 } : Room) (va_Pc [.ref (G.2.2.2 + q0), .int a1] (PreC G skR sz σ)) (QO (PoC G skR σ0) (Aw G.2.2.2 skR.1 sz) (some (.int r0))) 0 0 (Aw G.2.2.2 skR.1 sz) := by
  refine mkMet (by decide +kernel) (Nat.le_of_ble_eq_true rfl) skR_ok ?_
  intro p e s m below meth c ls E hW hl hr hlk
  have hl : lv_has ls 2 [(0, .ref (G.2.2.2 + q0)), (1, .int a1)] := hl
  generalize Aw G.2.2.2 skR.1 s.heap.size = A0 at E hW ⊢
  generalize ([.ref (G.2.2.2 + q0), .int a1] : List Value).toArray = args
  unfold f_X7_noIndex at h
  refine lv_aload_n E.1 E.2.1 dX7_noIndex_0 rfl (lv_at hl 0 rfl) ?_
  refine lv_iload_n E.1 E.2.1 dX7_noIndex_1 rfl (lv_at hl 1 rfl) ?_
  refine lv_iconst (v := (0 : Int32)) E.1 E.2.1 dX7_noIndex_2 (by decide) ?_
  refine lv_bipush (v := (7 : Int32)) E.1 E.2.1 dX7_noIndex_3 (by decide) ?_
  obtain ⟨x2, σ1, c3, h⟩ := obn_r h
  refine c_S (As := [.int a1, .int (0 : Int32), .int (7 : Int32)]) (rest := [.ref (G.2.2.2 + q0)]) E hW (m_X7_in c3) kw_1012 ws_X7_in yo_X7_in ⟨rfl, rfl⟩ ⟨(Nat.le_of_ble_eq_true rfl), (Nat.le_of_ble_eq_true rfl)⟩ (lv_size hl) (Nat.le_of_ble_eq_true rfl) ⟨(Nat.le_of_ble_eq_true rfl), (Nat.le_of_ble_eq_true rfl)⟩ rfl dX7_noIndex_5 (fun H locs hW => ?_)
  refine W.eq (g2 := F0 m 8 ls [.int x2, .ref (G.2.2.2 + q0)]) rfl ?_
  obtain ⟨J7, eJ7, h⟩ := bnd_x h
  have hJ7 : ∀ (x5 : Int32) (q6 : Nat) (σ4 : St) (H : Heap) (locs : List Loc) (ls : Array Slot), J7 x5 q6 σ4 = some (r0, σ0) → Wo G skR A0 s σ4 H locs → lv_has ls 2 [] → W p l e ({ frames := 1, cells := 0, slots := 0, locals := 22 } : Room) s m args below meth c H locs 0 0 (MQ below (QO (PoC G skR σ0) A0 (some (.int r0))) args s 0 0 A0) (F0 m 16 ls [.int x5, .ref (G.2.2.2 + q6)]) := by
    intro x5 q6 σ4 H locs ls h hW hl
    have h := jr3 eJ7 h
    refine lv_iconst (v := (1 : Int32)) E.1 E.2.1 dX7_noIndex_16 (by decide) ?_
    obtain ⟨g8, h⟩ := gd_r h
    obtain ⟨x10, σ9, c11, h⟩ := obn_r h
    refine c_V (As := [.int x5, .int (1 : Int32)]) (rest := []) E hW (m_X7_fails c11) g8 rfl kw_1015 wv_X7_fails yo_X7_fails ⟨rfl, rfl⟩ ⟨(Nat.le_of_ble_eq_true rfl), (Nat.le_of_ble_eq_true rfl)⟩ (lv_size hl) (Nat.le_of_ble_eq_true rfl) ⟨(Nat.le_of_ble_eq_true rfl), (Nat.le_of_ble_eq_true rfl)⟩ rfl dX7_noIndex_17 (fun H locs hW => ?_)
    refine W.eq (g2 := F0 m 20 ls [.int x10]) rfl ?_
    obtain ⟨g12, h⟩ := gd_r h
    exact e_z E hW hr hlk g12 h dX7_noIndex_20
  refine lv_if_ne (tgt := 15) E.1 E.2.1 dX7_noIndex_8 (by decide) (fun g => ?_) (fun g => ?_)
  · have h := ifn h g
    refine lv_iconst (v := (0 : Int32)) E.1 E.2.1 dX7_noIndex_15 (by decide) ?_
    exact hJ7 _ _ _ _ _ _ h hW (lv_sub hl [] rfl)
  · have h := ifp h g
    refine lv_iconst (v := (1 : Int32)) E.1 E.2.1 dX7_noIndex_11 (by decide) ?_
    refine lv_goto (tgt := 16) E.1 E.2.1 dX7_noIndex_12 (by decide) ?_
    exact hJ7 _ _ _ _ _ _ h hW (lv_sub hl [] rfl)
set_option maxHeartbeats 4000000 in
set_option maxRecDepth 100000 in
theorem m_X7_noModel {l : Launch} {G : GP} {sz : Nat} {q0 : Nat} {a1 : Int32} {σ σ0 : St} {r0 : Int32} (h : f_X7_noModel q0 a1 σ = some (r0, σ0)) : Met l yX7_noModel [.code yX7_noModel cX7_noModel 2 (some .boolean)] ({ frames := 2, cells := 0, slots := 0, locals := 43 } : Room) (va_Pc [.ref (G.2.2.2 + q0), .int a1] (PreC G skR sz σ)) (QO (PoC G skR σ0) (Aw G.2.2.2 skR.1 sz) (some (.int r0))) 0 0 (Aw G.2.2.2 skR.1 sz) := by
  refine mkMet (by decide +kernel) (Nat.le_of_ble_eq_true rfl) skR_ok ?_
  intro p e s m below meth c ls E hW hl hr hlk
  have hl : lv_has ls 2 [(0, .ref (G.2.2.2 + q0)), (1, .int a1)] := hl
  generalize Aw G.2.2.2 skR.1 s.heap.size = A0 at E hW ⊢
  generalize ([.ref (G.2.2.2 + q0), .int a1] : List Value).toArray = args
  unfold f_X7_noModel at h
  refine lv_aload_n E.1 E.2.1 dX7_noModel_0 rfl (lv_at hl 0 rfl) ?_
  refine lv_iload_n E.1 E.2.1 dX7_noModel_1 rfl (lv_at hl 1 rfl) ?_
  obtain ⟨g1, h⟩ := gd_r h
  obtain ⟨x3, σ2, c4, h⟩ := obn_r h
  refine c_V (As := [.int a1]) (rest := []) E hW (m_X7_noIndex c4) g1 rfl kw_1208 wv_X7_noIndex yo_X7_noIndex ⟨rfl, rfl⟩ ⟨(Nat.le_of_ble_eq_true rfl), (Nat.le_of_ble_eq_true rfl)⟩ (lv_size hl) (Nat.le_of_ble_eq_true rfl) ⟨(Nat.le_of_ble_eq_true rfl), (Nat.le_of_ble_eq_true rfl)⟩ rfl dX7_noModel_2 (fun H locs hW => ?_)
  refine W.eq (g2 := F0 m 5 ls [.int x3]) rfl ?_
  refine lv_if_ne (tgt := 32) E.1 E.2.1 dX7_noModel_5 (by decide) (fun g => ?_) (fun g => ?_)
  · have h := ifn h g
    refine lv_iconst (v := (1 : Int32)) E.1 E.2.1 dX7_noModel_32 (by decide) ?_
    refine lv_goto (tgt := 37) E.1 E.2.1 dX7_noModel_33 (by decide) ?_
    exact e_z E hW hr hlk (by decide) h dX7_noModel_37
  · have h := ifp h g
    refine lv_aload_n E.1 E.2.1 dX7_noModel_8 rfl (lv_at hl 0 rfl) ?_
    refine lv_aload_n E.1 E.2.1 dX7_noModel_9 rfl (lv_at hl 0 rfl) ?_
    refine gf_X7_17 E hW g1 dX7_noModel_10 ?_
    refine lv_iload_n E.1 E.2.1 dX7_noModel_13 rfl (lv_at hl 1 rfl) ?_
    obtain ⟨x6, σ5, c7, h⟩ := obn_r h
    refine c_S (As := [.ref (G.2.2.2 + (rR q0 8)), .int a1]) (rest := [.ref (G.2.2.2 + q0)]) E hW (m_X7_isDefined c7) kw_1145 ws_X7_isDefined yo_X7_isDefined ⟨rfl, rfl⟩ ⟨(Nat.le_of_ble_eq_true rfl), (Nat.le_of_ble_eq_true rfl)⟩ (lv_size hl) (Nat.le_of_ble_eq_true rfl) ⟨(Nat.le_of_ble_eq_true rfl), (Nat.le_of_ble_eq_true rfl)⟩ rfl dX7_noModel_14 (fun H locs hW => ?_)
    refine W.eq (g2 := F0 m 17 ls [.int x6, .ref (G.2.2.2 + q0)]) rfl ?_
    obtain ⟨J11, eJ11, h⟩ := bnd_x h
    have hJ11 : ∀ (x9 : Int32) (q10 : Nat) (σ8 : St) (H : Heap) (locs : List Loc) (ls : Array Slot), J11 x9 q10 σ8 = some (r0, σ0) → Wo G skR A0 s σ8 H locs → lv_has ls 2 [] → W p l e ({ frames := 2, cells := 0, slots := 0, locals := 43 } : Room) s m args below meth c H locs 0 0 (MQ below (QO (PoC G skR σ0) A0 (some (.int r0))) args s 0 0 A0) (F0 m 25 ls [.int x9, .ref (G.2.2.2 + q10)]) := by
      intro x9 q10 σ8 H locs ls h hW hl
      have h := jr3 eJ11 h
      refine lv_iconst (v := (2 : Int32)) E.1 E.2.1 dX7_noModel_25 (by decide) ?_
      obtain ⟨g12, h⟩ := gd_r h
      obtain ⟨x14, σ13, c15, h⟩ := obn_r h
      refine c_V (As := [.int x9, .int (2 : Int32)]) (rest := []) E hW (m_X7_fails c15) g12 rfl kw_1015 wv_X7_fails yo_X7_fails ⟨rfl, rfl⟩ ⟨(Nat.le_of_ble_eq_true rfl), (Nat.le_of_ble_eq_true rfl)⟩ (lv_size hl) (Nat.le_of_ble_eq_true rfl) ⟨(Nat.le_of_ble_eq_true rfl), (Nat.le_of_ble_eq_true rfl)⟩ rfl dX7_noModel_26 (fun H locs hW => ?_)
      refine W.eq (g2 := F0 m 29 ls [.int x14]) rfl ?_
      refine lv_if_eq (tgt := 36) E.1 E.2.1 dX7_noModel_29 (by decide) (fun g => ?_) (fun g => ?_)
      · have h := ifp h g
        refine lv_iconst (v := (0 : Int32)) E.1 E.2.1 dX7_noModel_36 (by decide) ?_
        exact e_z E hW hr hlk (by decide) h dX7_noModel_37
      · have h := ifn h g
        refine lv_iconst (v := (1 : Int32)) E.1 E.2.1 dX7_noModel_32 (by decide) ?_
        refine lv_goto (tgt := 37) E.1 E.2.1 dX7_noModel_33 (by decide) ?_
        exact e_z E hW hr hlk (by decide) h dX7_noModel_37
    refine lv_if_ne (tgt := 24) E.1 E.2.1 dX7_noModel_17 (by decide) (fun g => ?_) (fun g => ?_)
    · have h := ifn h g
      refine lv_iconst (v := (0 : Int32)) E.1 E.2.1 dX7_noModel_24 (by decide) ?_
      exact hJ11 _ _ _ _ _ _ h hW (lv_sub hl [] rfl)
    · have h := ifp h g
      refine lv_iconst (v := (1 : Int32)) E.1 E.2.1 dX7_noModel_20 (by decide) ?_
      refine lv_goto (tgt := 25) E.1 E.2.1 dX7_noModel_21 (by decide) ?_
      exact hJ11 _ _ _ _ _ _ h hW (lv_sub hl [] rfl)
set_option maxHeartbeats 4000000 in
set_option maxRecDepth 100000 in
theorem m_X7_noPair {l : Launch} {G : GP} {sz : Nat} {q0 : Nat} {a1 : Int32} {a2 : Int32} {σ σ0 : St} {r0 : Int32} (h : f_X7_noPair q0 a1 a2 σ = some (r0, σ0)) : Met l yX7_noPair [.code yX7_noPair cX7_noPair 3 (some .boolean)] ({ frames := 3, cells := 0, slots := 0, locals := 64 } : Room) (va_Pc [.ref (G.2.2.2 + q0), .int a1, .int a2] (PreC G skR sz σ)) (QO (PoC G skR σ0) (Aw G.2.2.2 skR.1 sz) (some (.int r0))) 0 0 (Aw G.2.2.2 skR.1 sz) := by
  refine mkMet (by decide +kernel) (Nat.le_of_ble_eq_true rfl) skR_ok ?_
  intro p e s m below meth c ls E hW hl hr hlk
  have hl : lv_has ls 3 [(0, .ref (G.2.2.2 + q0)), (1, .int a1), (2, .int a2)] := hl
  generalize Aw G.2.2.2 skR.1 s.heap.size = A0 at E hW ⊢
  generalize ([.ref (G.2.2.2 + q0), .int a1, .int a2] : List Value).toArray = args
  unfold f_X7_noPair at h
  refine lv_aload_n E.1 E.2.1 dX7_noPair_0 rfl (lv_at hl 0 rfl) ?_
  refine lv_iload_n E.1 E.2.1 dX7_noPair_1 rfl (lv_at hl 1 rfl) ?_
  obtain ⟨g1, h⟩ := gd_r h
  obtain ⟨x3, σ2, c4, h⟩ := obn_r h
  refine c_V (As := [.int a1]) (rest := []) E hW (m_X7_noIndex c4) g1 rfl kw_1208 wv_X7_noIndex yo_X7_noIndex ⟨rfl, rfl⟩ ⟨(Nat.le_of_ble_eq_true rfl), (Nat.le_of_ble_eq_true rfl)⟩ (lv_size hl) (Nat.le_of_ble_eq_true rfl) ⟨(Nat.le_of_ble_eq_true rfl), (Nat.le_of_ble_eq_true rfl)⟩ rfl dX7_noPair_2 (fun H locs hW => ?_)
  refine W.eq (g2 := F0 m 5 ls [.int x3]) rfl ?_
  refine lv_if_ne (tgt := 32) E.1 E.2.1 dX7_noPair_5 (by decide) (fun g => ?_) (fun g => ?_)
  · have h := ifn h g
    refine lv_iconst (v := (1 : Int32)) E.1 E.2.1 dX7_noPair_32 (by decide) ?_
    exact e_z E hW hr hlk (by decide) h dX7_noPair_33
  · have h := ifp h g
    refine lv_aload_n E.1 E.2.1 dX7_noPair_8 rfl (lv_at hl 0 rfl) ?_
    refine lv_iload_n E.1 E.2.1 dX7_noPair_9 rfl (lv_at hl 2 rfl) ?_
    obtain ⟨x6, σ5, c7, h⟩ := obn_r h
    refine c_V (As := [.int a2]) (rest := []) E hW (m_X7_noIndex c7) g1 rfl kw_1208 wv_X7_noIndex yo_X7_noIndex ⟨rfl, rfl⟩ ⟨(Nat.le_of_ble_eq_true rfl), (Nat.le_of_ble_eq_true rfl)⟩ (lv_size hl) (Nat.le_of_ble_eq_true rfl) ⟨(Nat.le_of_ble_eq_true rfl), (Nat.le_of_ble_eq_true rfl)⟩ rfl dX7_noPair_10 (fun H locs hW => ?_)
    refine W.eq (g2 := F0 m 13 ls [.int x6]) rfl ?_
    refine lv_if_ne (tgt := 32) E.1 E.2.1 dX7_noPair_13 (by decide) (fun g => ?_) (fun g => ?_)
    · have h := ifn h g
      refine lv_iconst (v := (1 : Int32)) E.1 E.2.1 dX7_noPair_32 (by decide) ?_
      exact e_z E hW hr hlk (by decide) h dX7_noPair_33
    · have h := ifp h g
      refine lv_aload_n E.1 E.2.1 dX7_noPair_16 rfl (lv_at hl 0 rfl) ?_
      refine lv_iload_n E.1 E.2.1 dX7_noPair_17 rfl (lv_at hl 1 rfl) ?_
      obtain ⟨x9, σ8, c10, h⟩ := obn_r h
      refine c_V (As := [.int a1]) (rest := []) E hW (m_X7_noModel c10) g1 rfl kw_1204 wv_X7_noModel yo_X7_noModel ⟨rfl, rfl⟩ ⟨(Nat.le_of_ble_eq_true rfl), (Nat.le_of_ble_eq_true rfl)⟩ (lv_size hl) (Nat.le_of_ble_eq_true rfl) ⟨(Nat.le_of_ble_eq_true rfl), (Nat.le_of_ble_eq_true rfl)⟩ rfl dX7_noPair_18 (fun H locs hW => ?_)
      refine W.eq (g2 := F0 m 21 ls [.int x9]) rfl ?_
      refine lv_if_ne (tgt := 32) E.1 E.2.1 dX7_noPair_21 (by decide) (fun g => ?_) (fun g => ?_)
      · have h := ifn h g
        refine lv_iconst (v := (1 : Int32)) E.1 E.2.1 dX7_noPair_32 (by decide) ?_
        exact e_z E hW hr hlk (by decide) h dX7_noPair_33
      · have h := ifp h g
        refine lv_aload_n E.1 E.2.1 dX7_noPair_24 rfl (lv_at hl 0 rfl) ?_
        refine lv_iload_n E.1 E.2.1 dX7_noPair_25 rfl (lv_at hl 2 rfl) ?_
        obtain ⟨x12, σ11, c13, h⟩ := obn_r h
        refine c_V (As := [.int a2]) (rest := []) E hW (m_X7_noModel c13) g1 rfl kw_1204 wv_X7_noModel yo_X7_noModel ⟨rfl, rfl⟩ ⟨(Nat.le_of_ble_eq_true rfl), (Nat.le_of_ble_eq_true rfl)⟩ (lv_size hl) (Nat.le_of_ble_eq_true rfl) ⟨(Nat.le_of_ble_eq_true rfl), (Nat.le_of_ble_eq_true rfl)⟩ rfl dX7_noPair_26 (fun H locs hW => ?_)
        refine W.eq (g2 := F0 m 29 ls [.int x12]) rfl ?_
        refine lv_if_eq (tgt := 34) E.1 E.2.1 dX7_noPair_29 (by decide) (fun g => ?_) (fun g => ?_)
        · have h := ifp h g
          refine lv_aload_n E.1 E.2.1 dX7_noPair_34 rfl (lv_at hl 0 rfl) ?_
          refine gf_X7_17 E hW g1 dX7_noPair_35 ?_
          refine lv_iload_n E.1 E.2.1 dX7_noPair_38 rfl (lv_at hl 1 rfl) ?_
          refine lv_aload_n E.1 E.2.1 dX7_noPair_39 rfl (lv_at hl 0 rfl) ?_
          refine gf_X7_61 E hW g1 dX7_noPair_40 ?_
          obtain ⟨_r, σ14, c15, h⟩ := obn_r h
          refine c_S (As := [.ref (G.2.2.2 + (rR q0 8)), .int a1, .ref (G.2.2.2 + (rR q0 24))]) (rest := []) E hW (m_X7_take c15) kw_1148 ws_X7_take yo_X7_take ⟨rfl, rfl⟩ ⟨(Nat.le_of_ble_eq_true rfl), (Nat.le_of_ble_eq_true rfl)⟩ (lv_size hl) (Nat.le_of_ble_eq_true rfl) ⟨(Nat.le_of_ble_eq_true rfl), (Nat.le_of_ble_eq_true rfl)⟩ rfl dX7_noPair_43 (fun H locs hW => ?_)
          refine W.eq (g2 := F0 m 46 ls []) rfl ?_
          refine lv_aload_n E.1 E.2.1 dX7_noPair_46 rfl (lv_at hl 0 rfl) ?_
          refine gf_X7_17 E hW g1 dX7_noPair_47 ?_
          refine lv_iload_n E.1 E.2.1 dX7_noPair_50 rfl (lv_at hl 2 rfl) ?_
          refine lv_aload_n E.1 E.2.1 dX7_noPair_51 rfl (lv_at hl 0 rfl) ?_
          refine gf_X7_64 E hW g1 dX7_noPair_52 ?_
          obtain ⟨_r, σ16, c17, h⟩ := obn_r h
          refine c_S (As := [.ref (G.2.2.2 + (rR q0 8)), .int a2, .ref (G.2.2.2 + (rR q0 25))]) (rest := []) E hW (m_X7_take c17) kw_1148 ws_X7_take yo_X7_take ⟨rfl, rfl⟩ ⟨(Nat.le_of_ble_eq_true rfl), (Nat.le_of_ble_eq_true rfl)⟩ (lv_size hl) (Nat.le_of_ble_eq_true rfl) ⟨(Nat.le_of_ble_eq_true rfl), (Nat.le_of_ble_eq_true rfl)⟩ rfl dX7_noPair_55 (fun H locs hW => ?_)
          refine W.eq (g2 := F0 m 58 ls []) rfl ?_
          refine lv_iconst (v := (0 : Int32)) E.1 E.2.1 dX7_noPair_58 (by decide) ?_
          exact e_z E hW hr hlk (by decide) h dX7_noPair_59
        · have h := ifn h g
          refine lv_iconst (v := (1 : Int32)) E.1 E.2.1 dX7_noPair_32 (by decide) ?_
          exact e_z E hW hr hlk (by decide) h dX7_noPair_33
set_option maxHeartbeats 4000000 in
set_option maxRecDepth 100000 in
theorem m_X7_isPlace {l : Launch} {G : GP} {sz : Nat} {a0 : Int32} {a1 : Int32} {σ σ0 : St} {r0 : Int32} (h : f_X7_isPlace a0 a1 σ = some (r0, σ0)) : Met l yX7_isPlace [.code yX7_isPlace cX7_isPlace 2 (some .boolean)] ({ frames := 0, cells := 0, slots := 0, locals := 0 } : Room) (va_Pc [.int a0, .int a1] (PreC G skR sz σ)) (QO (PoC G skR σ0) (Aw G.2.2.2 skR.1 sz) (some (.int r0))) 0 0 (Aw G.2.2.2 skR.1 sz) := by
  refine mkMet (by decide +kernel) (Nat.le_of_ble_eq_true rfl) skR_ok ?_
  intro p e s m below meth c ls E hW hl hr hlk
  have hl : lv_has ls 2 [(0, .int a0), (1, .int a1)] := hl
  generalize Aw G.2.2.2 skR.1 s.heap.size = A0 at E hW ⊢
  generalize ([.int a0, .int a1] : List Value).toArray = args
  unfold f_X7_isPlace at h
  refine lv_iload_n E.1 E.2.1 dX7_isPlace_0 rfl (lv_at hl 0 rfl) ?_
  refine lv_if_lt (tgt := 24) E.1 E.2.1 dX7_isPlace_1 (by decide) (fun g => ?_) (fun g => ?_)
  · have h := ifp h g
    refine lv_iconst (v := (0 : Int32)) E.1 E.2.1 dX7_isPlace_24 (by decide) ?_
    exact e_z E hW hr hlk (by decide) h dX7_isPlace_25
  · have h := ifn h g
    refine lv_iload_n E.1 E.2.1 dX7_isPlace_4 rfl (lv_at hl 1 rfl) ?_
    refine lv_if_lt (tgt := 24) E.1 E.2.1 dX7_isPlace_5 (by decide) (fun g => ?_) (fun g => ?_)
    · have h := ifp h g
      refine lv_iconst (v := (0 : Int32)) E.1 E.2.1 dX7_isPlace_24 (by decide) ?_
      exact e_z E hW hr hlk (by decide) h dX7_isPlace_25
    · have h := ifn h g
      refine lv_iload_n E.1 E.2.1 dX7_isPlace_8 rfl (lv_at hl 0 rfl) ?_
      refine lv_iconst (v := (3 : Int32)) E.1 E.2.1 dX7_isPlace_9 (by decide) ?_
      refine lv_icmp_gt (tgt := 24) E.1 E.2.1 dX7_isPlace_10 (by decide) (fun g => ?_) (fun g => ?_)
      · have h := ifp h g
        refine lv_iconst (v := (0 : Int32)) E.1 E.2.1 dX7_isPlace_24 (by decide) ?_
        exact e_z E hW hr hlk (by decide) h dX7_isPlace_25
      · have h := ifn h g
        refine lv_iload_n E.1 E.2.1 dX7_isPlace_13 rfl (lv_at hl 1 rfl) ?_
        refine lv_iconst (v := (3 : Int32)) E.1 E.2.1 dX7_isPlace_14 (by decide) ?_
        refine lv_iload_n E.1 E.2.1 dX7_isPlace_15 rfl (lv_at hl 0 rfl) ?_
        refine lv_isub E.1 E.2.1 dX7_isPlace_16 ?_
        refine lv_icmp_gt (tgt := 24) E.1 E.2.1 dX7_isPlace_17 (by decide) (fun g => ?_) (fun g => ?_)
        · have h := ifp h g
          refine lv_iconst (v := (0 : Int32)) E.1 E.2.1 dX7_isPlace_24 (by decide) ?_
          exact e_z E hW hr hlk (by decide) h dX7_isPlace_25
        · have h := ifn h g
          refine lv_iconst (v := (1 : Int32)) E.1 E.2.1 dX7_isPlace_20 (by decide) ?_
          refine lv_goto (tgt := 25) E.1 E.2.1 dX7_isPlace_21 (by decide) ?_
          exact e_z E hW hr hlk (by decide) h dX7_isPlace_25
set_option maxHeartbeats 4000000 in
set_option maxRecDepth 100000 in
theorem m_X7_defined {l : Launch} {G : GP} {sz : Nat} {q0 : Nat} {σ σ0 : St} {r0 : Int32} (h : f_X7_defined q0 σ = some (r0, σ0)) : Met l yX7_defined [.code yX7_defined cX7_defined 1 (some .int)] ({ frames := 0, cells := 0, slots := 0, locals := 0 } : Room) (va_Pc [.ref (G.2.2.2 + q0)] (PreC G skR sz σ)) (QO (PoC G skR σ0) (Aw G.2.2.2 skR.1 sz) (some (.int r0))) 0 0 (Aw G.2.2.2 skR.1 sz) := by
  refine mkMet (by decide +kernel) (Nat.le_of_ble_eq_true rfl) skR_ok ?_
  intro p e s m below meth c ls E hW hl hr hlk
  have hl : lv_has ls 1 [(0, .ref (G.2.2.2 + q0))] := hl
  generalize Aw G.2.2.2 skR.1 s.heap.size = A0 at E hW ⊢
  generalize ([.ref (G.2.2.2 + q0)] : List Value).toArray = args
  unfold f_X7_defined at h
  refine lv_aload_n E.1 E.2.1 dX7_defined_0 rfl (lv_at hl 0 rfl) ?_
  refine lv_iconst (v := (0 : Int32)) E.1 E.2.1 dX7_defined_1 (by decide) ?_
  obtain ⟨g1, h⟩ := gd_r h
  refine pf_X7_79 E hW g1 dX7_defined_2 (fun σ2 H locs eσ2 hW => ?_)
  have h := bnd_r eσ2 h
  refine lv_aload_n E.1 E.2.1 dX7_defined_5 rfl (lv_at hl 0 rfl) ?_
  refine gf_X7_17 E hW g1 dX7_defined_6 ?_
  refine lv_iconst (v := (0 : Int32)) E.1 E.2.1 dX7_defined_9 (by decide) ?_
  obtain ⟨g3, h⟩ := gd_r h
  refine r_iald E hW (pr_eq g3.1) g3.2 dX7_defined_10 ?_
  exact e_i E hW hr hlk h dX7_defined_11
set_option maxHeartbeats 4000000 in
set_option maxRecDepth 100000 in
theorem m_X7_coefficient {l : Launch} {G : GP} {sz : Nat} {q0 : Nat} {a1 : Int32} {a2 : Int32} {a3 : Int32} {σ σ0 : St} {r0 : Int32} (h : f_X7_coefficient q0 a1 a2 a3 σ = some (r0, σ0)) : Met l yX7_coefficient [.code yX7_coefficient cX7_coefficient 4 (some .int)] ({ frames := 3, cells := 0, slots := 0, locals := 64 } : Room) (va_Pc [.ref (G.2.2.2 + q0), .int a1, .int a2, .int a3] (PreC G skR sz σ)) (QO (PoC G skR σ0) (Aw G.2.2.2 skR.1 sz) (some (.int r0))) 0 0 (Aw G.2.2.2 skR.1 sz) := by
  refine mkMet (by decide +kernel) (Nat.le_of_ble_eq_true rfl) skR_ok ?_
  intro p e s m below meth c ls E hW hl hr hlk
  have hl : lv_has ls 4 [(0, .ref (G.2.2.2 + q0)), (1, .int a1), (2, .int a2), (3, .int a3)] := hl
  generalize Aw G.2.2.2 skR.1 s.heap.size = A0 at E hW ⊢
  generalize ([.ref (G.2.2.2 + q0), .int a1, .int a2, .int a3] : List Value).toArray = args
  unfold f_X7_coefficient at h
  refine lv_aload_n E.1 E.2.1 dX7_coefficient_0 rfl (lv_at hl 0 rfl) ?_
  refine lv_iconst (v := (0 : Int32)) E.1 E.2.1 dX7_coefficient_1 (by decide) ?_
  obtain ⟨g1, h⟩ := gd_r h
  refine pf_X7_79 E hW g1 dX7_coefficient_2 (fun σ2 H locs eσ2 hW => ?_)
  have h := bnd_r eσ2 h
  refine lv_aload_n E.1 E.2.1 dX7_coefficient_5 rfl (lv_at hl 0 rfl) ?_
  refine lv_iload_n E.1 E.2.1 dX7_coefficient_6 rfl (lv_at hl 1 rfl) ?_
  obtain ⟨x4, σ3, c5, h⟩ := obn_r h
  refine c_V (As := [.int a1]) (rest := []) E hW (m_X7_noModel c5) g1 rfl kw_1204 wv_X7_noModel yo_X7_noModel ⟨rfl, rfl⟩ ⟨(Nat.le_of_ble_eq_true rfl), (Nat.le_of_ble_eq_true rfl)⟩ (lv_size hl) (Nat.le_of_ble_eq_true rfl) ⟨(Nat.le_of_ble_eq_true rfl), (Nat.le_of_ble_eq_true rfl)⟩ rfl dX7_coefficient_7 (fun H locs hW => ?_)
  refine W.eq (g2 := F0 m 10 ls [.int x4]) rfl ?_
  refine lv_if_ne (tgt := 34) E.1 E.2.1 dX7_coefficient_10 (by decide) (fun g => ?_) (fun g => ?_)
  · have h := ifn h g
    refine lv_iconst (v := (0 : Int32)) E.1 E.2.1 dX7_coefficient_34 (by decide) ?_
    refine lv_goto (tgt := 55) E.1 E.2.1 dX7_coefficient_35 (by decide) ?_
    exact e_i E hW hr hlk h dX7_coefficient_55
  · have h := ifp h g
    refine lv_aload_n E.1 E.2.1 dX7_coefficient_13 rfl (lv_at hl 0 rfl) ?_
    refine lv_iload_n E.1 E.2.1 dX7_coefficient_14 rfl (lv_at hl 2 rfl) ?_
    refine lv_iload_n E.1 E.2.1 dX7_coefficient_15 rfl (lv_at hl 3 rfl) ?_
    obtain ⟨x7, σ6, c8, h⟩ := obn_r h
    refine c_S (As := [.int a2, .int a3]) (rest := [.ref (G.2.2.2 + q0)]) E hW (m_X7_isPlace c8) kw_1212 ws_X7_isPlace yo_X7_isPlace ⟨rfl, rfl⟩ ⟨(Nat.le_of_ble_eq_true rfl), (Nat.le_of_ble_eq_true rfl)⟩ (lv_size hl) (Nat.le_of_ble_eq_true rfl) ⟨(Nat.le_of_ble_eq_true rfl), (Nat.le_of_ble_eq_true rfl)⟩ rfl dX7_coefficient_16 (fun H locs hW => ?_)
    refine W.eq (g2 := F0 m 19 ls [.int x7, .ref (G.2.2.2 + q0)]) rfl ?_
    obtain ⟨J16, eJ16, h⟩ := bnd_x h
    have hJ16 : ∀ (q10 : Nat) (x11 : Int32) (x12 : Int32) (x13 : Int32) (x14 : Int32) (q15 : Nat) (σ9 : St) (H : Heap) (locs : List Loc) (ls : Array Slot), J16 q10 x11 x12 x13 x14 q15 σ9 = some (r0, σ0) → Wo G skR A0 s σ9 H locs → lv_has ls 4 [(0, .ref (G.2.2.2 + q10)), (1, .int x11), (2, .int x12), (3, .int x13)] → W p l e ({ frames := 3, cells := 0, slots := 0, locals := 64 } : Room) s m args below meth c H locs 0 0 (MQ below (QO (PoC G skR σ0) A0 (some (.int r0))) args s 0 0 A0) (F0 m 27 ls [.int x14, .ref (G.2.2.2 + q15)]) := by
      intro q10 x11 x12 x13 x14 q15 σ9 H locs ls h hW hl
      have h := jr7 eJ16 h
      refine lv_iconst (v := (3 : Int32)) E.1 E.2.1 dX7_coefficient_27 (by decide) ?_
      obtain ⟨g17, h⟩ := gd_r h
      obtain ⟨x19, σ18, c20, h⟩ := obn_r h
      refine c_V (As := [.int x14, .int (3 : Int32)]) (rest := []) E hW (m_X7_fails c20) g17 rfl kw_1015 wv_X7_fails yo_X7_fails ⟨rfl, rfl⟩ ⟨(Nat.le_of_ble_eq_true rfl), (Nat.le_of_ble_eq_true rfl)⟩ (lv_size hl) (Nat.le_of_ble_eq_true rfl) ⟨(Nat.le_of_ble_eq_true rfl), (Nat.le_of_ble_eq_true rfl)⟩ rfl dX7_coefficient_28 (fun H locs hW => ?_)
      refine W.eq (g2 := F0 m 31 ls [.int x19]) rfl ?_
      refine lv_if_eq (tgt := 38) E.1 E.2.1 dX7_coefficient_31 (by decide) (fun g => ?_) (fun g => ?_)
      · have h := ifp h g
        refine lv_aload_n E.1 E.2.1 dX7_coefficient_38 rfl (lv_at hl 0 rfl) ?_
        obtain ⟨g21, h⟩ := gd_r h
        refine gf_X7_17 E hW g21 dX7_coefficient_39 ?_
        refine lv_iconst (v := (1 : Int32)) E.1 E.2.1 dX7_coefficient_42 (by decide) ?_
        refine lv_bipush (v := (12 : Int32)) E.1 E.2.1 dX7_coefficient_43 (by decide) ?_
        refine lv_iload_n E.1 E.2.1 dX7_coefficient_45 rfl (lv_at hl 1 rfl) ?_
        refine lv_imul E.1 E.2.1 dX7_coefficient_46 ?_
        refine lv_iadd E.1 E.2.1 dX7_coefficient_47 ?_
        refine lv_iload_n E.1 E.2.1 dX7_coefficient_48 rfl (lv_at hl 2 rfl) ?_
        refine lv_iload_n E.1 E.2.1 dX7_coefficient_49 rfl (lv_at hl 3 rfl) ?_
        obtain ⟨x23, σ22, c24, h⟩ := obn_r h
        refine c_S (As := [.int x12, .int x13]) (rest := [.int ((1 : Int32) + ((12 : Int32) * x11)), .ref (G.2.2.2 + (rR q10 8))]) E hW (m_X7_place c24) kw_1093 ws_X7_place yo_X7_place ⟨rfl, rfl⟩ ⟨(Nat.le_of_ble_eq_true rfl), (Nat.le_of_ble_eq_true rfl)⟩ (lv_size hl) (Nat.le_of_ble_eq_true rfl) ⟨(Nat.le_of_ble_eq_true rfl), (Nat.le_of_ble_eq_true rfl)⟩ rfl dX7_coefficient_50 (fun H locs hW => ?_)
        refine W.eq (g2 := F0 m 53 ls [.int x23, .int ((1 : Int32) + ((12 : Int32) * x11)), .ref (G.2.2.2 + (rR q10 8))]) rfl ?_
        refine lv_iadd E.1 E.2.1 dX7_coefficient_53 ?_
        obtain ⟨g25, h⟩ := gd_r h
        refine r_iald E hW (pr_eq g25.1) g25.2 dX7_coefficient_54 ?_
        exact e_i E hW hr hlk h dX7_coefficient_55
      · have h := ifn h g
        refine lv_iconst (v := (0 : Int32)) E.1 E.2.1 dX7_coefficient_34 (by decide) ?_
        refine lv_goto (tgt := 55) E.1 E.2.1 dX7_coefficient_35 (by decide) ?_
        exact e_i E hW hr hlk h dX7_coefficient_55
    refine lv_if_ne (tgt := 26) E.1 E.2.1 dX7_coefficient_19 (by decide) (fun g => ?_) (fun g => ?_)
    · have h := ifn h g
      refine lv_iconst (v := (0 : Int32)) E.1 E.2.1 dX7_coefficient_26 (by decide) ?_
      exact hJ16 _ _ _ _ _ _ _ _ _ _ h hW (lv_sub hl [0, 1, 2, 3] rfl)
    · have h := ifp h g
      refine lv_iconst (v := (1 : Int32)) E.1 E.2.1 dX7_coefficient_22 (by decide) ?_
      refine lv_goto (tgt := 27) E.1 E.2.1 dX7_coefficient_23 (by decide) ?_
      exact hJ16 _ _ _ _ _ _ _ _ _ _ h hW (lv_sub hl [0, 1, 2, 3] rfl)
set_option maxHeartbeats 4000000 in
set_option maxRecDepth 100000 in
theorem m_X7_remainder {l : Launch} {G : GP} {sz : Nat} {q0 : Nat} {a1 : Int32} {a2 : Int32} {σ σ0 : St} {r0 : Int32} (h : f_X7_remainder q0 a1 a2 σ = some (r0, σ0)) : Met l yX7_remainder [.code yX7_remainder cX7_remainder 3 (some .int)] ({ frames := 3, cells := 0, slots := 0, locals := 64 } : Room) (va_Pc [.ref (G.2.2.2 + q0), .int a1, .int a2] (PreC G skR sz σ)) (QO (PoC G skR σ0) (Aw G.2.2.2 skR.1 sz) (some (.int r0))) 0 0 (Aw G.2.2.2 skR.1 sz) := by
  refine mkMet (by decide +kernel) (Nat.le_of_ble_eq_true rfl) skR_ok ?_
  intro p e s m below meth c ls E hW hl hr hlk
  have hl : lv_has ls 3 [(0, .ref (G.2.2.2 + q0)), (1, .int a1), (2, .int a2)] := hl
  generalize Aw G.2.2.2 skR.1 s.heap.size = A0 at E hW ⊢
  generalize ([.ref (G.2.2.2 + q0), .int a1, .int a2] : List Value).toArray = args
  unfold f_X7_remainder at h
  refine lv_aload_n E.1 E.2.1 dX7_remainder_0 rfl (lv_at hl 0 rfl) ?_
  refine lv_iconst (v := (0 : Int32)) E.1 E.2.1 dX7_remainder_1 (by decide) ?_
  obtain ⟨g1, h⟩ := gd_r h
  refine pf_X7_79 E hW g1 dX7_remainder_2 (fun σ2 H locs eσ2 hW => ?_)
  have h := bnd_r eσ2 h
  refine lv_aload_n E.1 E.2.1 dX7_remainder_5 rfl (lv_at hl 0 rfl) ?_
  refine lv_iload_n E.1 E.2.1 dX7_remainder_6 rfl (lv_at hl 1 rfl) ?_
  obtain ⟨x4, σ3, c5, h⟩ := obn_r h
  refine c_V (As := [.int a1]) (rest := []) E hW (m_X7_noModel c5) g1 rfl kw_1204 wv_X7_noModel yo_X7_noModel ⟨rfl, rfl⟩ ⟨(Nat.le_of_ble_eq_true rfl), (Nat.le_of_ble_eq_true rfl)⟩ (lv_size hl) (Nat.le_of_ble_eq_true rfl) ⟨(Nat.le_of_ble_eq_true rfl), (Nat.le_of_ble_eq_true rfl)⟩ rfl dX7_remainder_7 (fun H locs hW => ?_)
  refine W.eq (g2 := F0 m 10 ls [.int x4]) rfl ?_
  refine lv_if_ne (tgt := 35) E.1 E.2.1 dX7_remainder_10 (by decide) (fun g => ?_) (fun g => ?_)
  · have h := ifn h g
    refine lv_iconst (v := (0 : Int32)) E.1 E.2.1 dX7_remainder_35 (by decide) ?_
    refine lv_goto (tgt := 55) E.1 E.2.1 dX7_remainder_36 (by decide) ?_
    exact e_i E hW hr hlk h dX7_remainder_55
  · have h := ifp h g
    refine lv_aload_n E.1 E.2.1 dX7_remainder_13 rfl (lv_at hl 0 rfl) ?_
    refine lv_iload_n E.1 E.2.1 dX7_remainder_14 rfl (lv_at hl 2 rfl) ?_
    refine lv_iconst (v := (0 : Int32)) E.1 E.2.1 dX7_remainder_15 (by decide) ?_
    refine lv_iconst (v := (1 : Int32)) E.1 E.2.1 dX7_remainder_16 (by decide) ?_
    obtain ⟨x7, σ6, c8, h⟩ := obn_r h
    refine c_S (As := [.int a2, .int (0 : Int32), .int (1 : Int32)]) (rest := [.ref (G.2.2.2 + q0)]) E hW (m_X7_in c8) kw_1012 ws_X7_in yo_X7_in ⟨rfl, rfl⟩ ⟨(Nat.le_of_ble_eq_true rfl), (Nat.le_of_ble_eq_true rfl)⟩ (lv_size hl) (Nat.le_of_ble_eq_true rfl) ⟨(Nat.le_of_ble_eq_true rfl), (Nat.le_of_ble_eq_true rfl)⟩ rfl dX7_remainder_17 (fun H locs hW => ?_)
    refine W.eq (g2 := F0 m 20 ls [.int x7, .ref (G.2.2.2 + q0)]) rfl ?_
    obtain ⟨J15, eJ15, h⟩ := bnd_x h
    have hJ15 : ∀ (q10 : Nat) (x11 : Int32) (x12 : Int32) (x13 : Int32) (q14 : Nat) (σ9 : St) (H : Heap) (locs : List Loc) (ls : Array Slot), J15 q10 x11 x12 x13 q14 σ9 = some (r0, σ0) → Wo G skR A0 s σ9 H locs → lv_has ls 3 [(0, .ref (G.2.2.2 + q10)), (1, .int x11), (2, .int x12)] → W p l e ({ frames := 3, cells := 0, slots := 0, locals := 64 } : Room) s m args below meth c H locs 0 0 (MQ below (QO (PoC G skR σ0) A0 (some (.int r0))) args s 0 0 A0) (F0 m 28 ls [.int x13, .ref (G.2.2.2 + q14)]) := by
      intro q10 x11 x12 x13 q14 σ9 H locs ls h hW hl
      have h := jr6 eJ15 h
      refine lv_iconst (v := (3 : Int32)) E.1 E.2.1 dX7_remainder_28 (by decide) ?_
      obtain ⟨g16, h⟩ := gd_r h
      obtain ⟨x18, σ17, c19, h⟩ := obn_r h
      refine c_V (As := [.int x13, .int (3 : Int32)]) (rest := []) E hW (m_X7_fails c19) g16 rfl kw_1015 wv_X7_fails yo_X7_fails ⟨rfl, rfl⟩ ⟨(Nat.le_of_ble_eq_true rfl), (Nat.le_of_ble_eq_true rfl)⟩ (lv_size hl) (Nat.le_of_ble_eq_true rfl) ⟨(Nat.le_of_ble_eq_true rfl), (Nat.le_of_ble_eq_true rfl)⟩ rfl dX7_remainder_29 (fun H locs hW => ?_)
      refine W.eq (g2 := F0 m 32 ls [.int x18]) rfl ?_
      refine lv_if_eq (tgt := 39) E.1 E.2.1 dX7_remainder_32 (by decide) (fun g => ?_) (fun g => ?_)
      · have h := ifp h g
        refine lv_aload_n E.1 E.2.1 dX7_remainder_39 rfl (lv_at hl 0 rfl) ?_
        obtain ⟨g20, h⟩ := gd_r h
        refine gf_X7_17 E hW g20 dX7_remainder_40 ?_
        refine lv_iconst (v := (1 : Int32)) E.1 E.2.1 dX7_remainder_43 (by decide) ?_
        refine lv_bipush (v := (12 : Int32)) E.1 E.2.1 dX7_remainder_44 (by decide) ?_
        refine lv_iload_n E.1 E.2.1 dX7_remainder_46 rfl (lv_at hl 1 rfl) ?_
        refine lv_imul E.1 E.2.1 dX7_remainder_47 ?_
        refine lv_iadd E.1 E.2.1 dX7_remainder_48 ?_
        refine lv_bipush (v := (10 : Int32)) E.1 E.2.1 dX7_remainder_49 (by decide) ?_
        refine lv_iadd E.1 E.2.1 dX7_remainder_51 ?_
        refine lv_iload_n E.1 E.2.1 dX7_remainder_52 rfl (lv_at hl 2 rfl) ?_
        refine lv_iadd E.1 E.2.1 dX7_remainder_53 ?_
        obtain ⟨g21, h⟩ := gd_r h
        refine r_iald E hW (pr_eq g21.1) g21.2 dX7_remainder_54 ?_
        exact e_i E hW hr hlk h dX7_remainder_55
      · have h := ifn h g
        refine lv_iconst (v := (0 : Int32)) E.1 E.2.1 dX7_remainder_35 (by decide) ?_
        refine lv_goto (tgt := 55) E.1 E.2.1 dX7_remainder_36 (by decide) ?_
        exact e_i E hW hr hlk h dX7_remainder_55
    refine lv_if_ne (tgt := 27) E.1 E.2.1 dX7_remainder_20 (by decide) (fun g => ?_) (fun g => ?_)
    · have h := ifn h g
      refine lv_iconst (v := (0 : Int32)) E.1 E.2.1 dX7_remainder_27 (by decide) ?_
      exact hJ15 _ _ _ _ _ _ _ _ _ h hW (lv_sub hl [0, 1, 2] rfl)
    · have h := ifp h g
      refine lv_iconst (v := (1 : Int32)) E.1 E.2.1 dX7_remainder_23 (by decide) ?_
      refine lv_goto (tgt := 28) E.1 E.2.1 dX7_remainder_24 (by decide) ?_
      exact hJ15 _ _ _ _ _ _ _ _ _ h hW (lv_sub hl [0, 1, 2] rfl)
set_option maxHeartbeats 4000000 in
set_option maxRecDepth 100000 in
theorem m_X7_bound {l : Launch} {G : GP} {sz : Nat} {q0 : Nat} {a1 : Int32} {a2 : Int32} {σ σ0 : St} {r0 : Int32} (h : f_X7_bound q0 a1 a2 σ = some (r0, σ0)) : Met l yX7_bound [.code yX7_bound cX7_bound 3 (some .int)] ({ frames := 4, cells := 0, slots := 0, locals := 92 } : Room) (va_Pc [.ref (G.2.2.2 + q0), .int a1, .int a2] (PreC G skR sz σ)) (QO (PoC G skR σ0) (Aw G.2.2.2 skR.1 sz) (some (.int r0))) 0 0 (Aw G.2.2.2 skR.1 sz) := by
  refine mkMet (by decide +kernel) (Nat.le_of_ble_eq_true rfl) skR_ok ?_
  intro p e s m below meth c ls E hW hl hr hlk
  have hl : lv_has ls 3 [(0, .ref (G.2.2.2 + q0)), (1, .int a1), (2, .int a2)] := hl
  generalize Aw G.2.2.2 skR.1 s.heap.size = A0 at E hW ⊢
  generalize ([.ref (G.2.2.2 + q0), .int a1, .int a2] : List Value).toArray = args
  unfold f_X7_bound at h
  refine lv_aload_n E.1 E.2.1 dX7_bound_0 rfl (lv_at hl 0 rfl) ?_
  refine lv_iconst (v := (0 : Int32)) E.1 E.2.1 dX7_bound_1 (by decide) ?_
  obtain ⟨g1, h⟩ := gd_r h
  refine pf_X7_79 E hW g1 dX7_bound_2 (fun σ2 H locs eσ2 hW => ?_)
  have h := bnd_r eσ2 h
  refine lv_aload_n E.1 E.2.1 dX7_bound_5 rfl (lv_at hl 0 rfl) ?_
  refine lv_iload_n E.1 E.2.1 dX7_bound_6 rfl (lv_at hl 1 rfl) ?_
  obtain ⟨x4, σ3, c5, h⟩ := obn_r h
  refine c_V (As := [.int a1]) (rest := []) E hW (m_X7_noModel c5) g1 rfl kw_1204 wv_X7_noModel yo_X7_noModel ⟨rfl, rfl⟩ ⟨(Nat.le_of_ble_eq_true rfl), (Nat.le_of_ble_eq_true rfl)⟩ (lv_size hl) (Nat.le_of_ble_eq_true rfl) ⟨(Nat.le_of_ble_eq_true rfl), (Nat.le_of_ble_eq_true rfl)⟩ rfl dX7_bound_7 (fun H locs hW => ?_)
  refine W.eq (g2 := F0 m 10 ls [.int x4]) rfl ?_
  refine lv_if_ne (tgt := 35) E.1 E.2.1 dX7_bound_10 (by decide) (fun g => ?_) (fun g => ?_)
  · have h := ifn h g
    refine lv_iconst (v := (0 : Int32)) E.1 E.2.1 dX7_bound_35 (by decide) ?_
    exact e_i E hW hr hlk h dX7_bound_36
  · have h := ifp h g
    refine lv_aload_n E.1 E.2.1 dX7_bound_13 rfl (lv_at hl 0 rfl) ?_
    refine lv_iload_n E.1 E.2.1 dX7_bound_14 rfl (lv_at hl 2 rfl) ?_
    refine lv_iconst (v := (0 : Int32)) E.1 E.2.1 dX7_bound_15 (by decide) ?_
    refine lv_iconst (v := (1 : Int32)) E.1 E.2.1 dX7_bound_16 (by decide) ?_
    obtain ⟨x7, σ6, c8, h⟩ := obn_r h
    refine c_S (As := [.int a2, .int (0 : Int32), .int (1 : Int32)]) (rest := [.ref (G.2.2.2 + q0)]) E hW (m_X7_in c8) kw_1012 ws_X7_in yo_X7_in ⟨rfl, rfl⟩ ⟨(Nat.le_of_ble_eq_true rfl), (Nat.le_of_ble_eq_true rfl)⟩ (lv_size hl) (Nat.le_of_ble_eq_true rfl) ⟨(Nat.le_of_ble_eq_true rfl), (Nat.le_of_ble_eq_true rfl)⟩ rfl dX7_bound_17 (fun H locs hW => ?_)
    refine W.eq (g2 := F0 m 20 ls [.int x7, .ref (G.2.2.2 + q0)]) rfl ?_
    obtain ⟨J15, eJ15, h⟩ := bnd_x h
    have hJ15 : ∀ (q10 : Nat) (x11 : Int32) (x12 : Int32) (x13 : Int32) (q14 : Nat) (σ9 : St) (H : Heap) (locs : List Loc) (ls : Array Slot), J15 q10 x11 x12 x13 q14 σ9 = some (r0, σ0) → Wo G skR A0 s σ9 H locs → lv_has ls 3 [(0, .ref (G.2.2.2 + q10)), (1, .int x11), (2, .int x12)] → W p l e ({ frames := 4, cells := 0, slots := 0, locals := 92 } : Room) s m args below meth c H locs 0 0 (MQ below (QO (PoC G skR σ0) A0 (some (.int r0))) args s 0 0 A0) (F0 m 28 ls [.int x13, .ref (G.2.2.2 + q14)]) := by
      intro q10 x11 x12 x13 q14 σ9 H locs ls h hW hl
      have h := jr6 eJ15 h
      refine lv_iconst (v := (3 : Int32)) E.1 E.2.1 dX7_bound_28 (by decide) ?_
      obtain ⟨g16, h⟩ := gd_r h
      obtain ⟨x18, σ17, c19, h⟩ := obn_r h
      refine c_V (As := [.int x13, .int (3 : Int32)]) (rest := []) E hW (m_X7_fails c19) g16 rfl kw_1015 wv_X7_fails yo_X7_fails ⟨rfl, rfl⟩ ⟨(Nat.le_of_ble_eq_true rfl), (Nat.le_of_ble_eq_true rfl)⟩ (lv_size hl) (Nat.le_of_ble_eq_true rfl) ⟨(Nat.le_of_ble_eq_true rfl), (Nat.le_of_ble_eq_true rfl)⟩ rfl dX7_bound_29 (fun H locs hW => ?_)
      refine W.eq (g2 := F0 m 32 ls [.int x18]) rfl ?_
      refine lv_if_eq (tgt := 37) E.1 E.2.1 dX7_bound_32 (by decide) (fun g => ?_) (fun g => ?_)
      · have h := ifp h g
        refine lv_aload_n E.1 E.2.1 dX7_bound_37 rfl (lv_at hl 0 rfl) ?_
        obtain ⟨g20, h⟩ := gd_r h
        refine gf_X7_17 E hW g20 dX7_bound_38 ?_
        refine lv_iload_n E.1 E.2.1 dX7_bound_41 rfl (lv_at hl 1 rfl) ?_
        refine lv_aload_n E.1 E.2.1 dX7_bound_42 rfl (lv_at hl 0 rfl) ?_
        refine gf_X7_61 E hW g20 dX7_bound_43 ?_
        obtain ⟨_r, σ21, c22, h⟩ := obn_r h
        refine c_S (As := [.ref (G.2.2.2 + (rR q10 8)), .int x11, .ref (G.2.2.2 + (rR q10 24))]) (rest := []) E hW (m_X7_take c22) kw_1148 ws_X7_take yo_X7_take ⟨rfl, rfl⟩ ⟨(Nat.le_of_ble_eq_true rfl), (Nat.le_of_ble_eq_true rfl)⟩ (lv_size hl) (Nat.le_of_ble_eq_true rfl) ⟨(Nat.le_of_ble_eq_true rfl), (Nat.le_of_ble_eq_true rfl)⟩ rfl dX7_bound_46 (fun H locs hW => ?_)
        refine W.eq (g2 := F0 m 49 ls []) rfl ?_
        refine lv_iload_n E.1 E.2.1 dX7_bound_49 rfl (lv_at hl 2 rfl) ?_
        refine lv_if_ne (tgt := 71) E.1 E.2.1 dX7_bound_50 (by decide) (fun g => ?_) (fun g => ?_)
        · have h := ifn h g
          refine lv_aload_n E.1 E.2.1 dX7_bound_71 rfl (lv_at hl 0 rfl) ?_
          refine gf_X7_61 E hW g20 dX7_bound_72 ?_
          obtain ⟨x24, σ23, c25, h⟩ := obn_r h
          refine c_S (As := [.ref (G.2.2.2 + (rR q10 24))]) (rest := []) E hW (m_X7_spreadHigh c25) kw_1162 ws_X7_spreadHigh yo_X7_spreadHigh ⟨rfl, rfl⟩ ⟨(Nat.le_of_ble_eq_true rfl), (Nat.le_of_ble_eq_true rfl)⟩ (lv_size hl) (Nat.le_of_ble_eq_true rfl) ⟨(Nat.le_of_ble_eq_true rfl), (Nat.le_of_ble_eq_true rfl)⟩ rfl dX7_bound_75 (fun H locs hW => ?_)
          refine W.eq (g2 := F0 m 78 ls [.long x24]) rfl ?_
          refine lv_aload_n E.1 E.2.1 dX7_bound_78 rfl (lv_at hl 0 rfl) ?_
          refine gf_X7_61 E hW g20 dX7_bound_79 ?_
          refine lv_bipush (v := (11 : Int32)) E.1 E.2.1 dX7_bound_82 (by decide) ?_
          obtain ⟨g26, h⟩ := gd_r h
          refine r_lald E hW (pr_eq g26.1) g26.2 dX7_bound_84 ?_
          refine lv_ladd E.1 E.2.1 dX7_bound_85 ?_
          refine lv_l2i E.1 E.2.1 dX7_bound_86 rfl ?_
          exact e_i E hW hr hlk h dX7_bound_87
        · have h := ifp h g
          refine lv_aload_n E.1 E.2.1 dX7_bound_53 rfl (lv_at hl 0 rfl) ?_
          refine gf_X7_61 E hW g20 dX7_bound_54 ?_
          obtain ⟨x28, σ27, c29, h⟩ := obn_r h
          refine c_S (As := [.ref (G.2.2.2 + (rR q10 24))]) (rest := []) E hW (m_X7_spreadLow c29) kw_1158 ws_X7_spreadLow yo_X7_spreadLow ⟨rfl, rfl⟩ ⟨(Nat.le_of_ble_eq_true rfl), (Nat.le_of_ble_eq_true rfl)⟩ (lv_size hl) (Nat.le_of_ble_eq_true rfl) ⟨(Nat.le_of_ble_eq_true rfl), (Nat.le_of_ble_eq_true rfl)⟩ rfl dX7_bound_57 (fun H locs hW => ?_)
          refine W.eq (g2 := F0 m 60 ls [.long x28]) rfl ?_
          refine lv_aload_n E.1 E.2.1 dX7_bound_60 rfl (lv_at hl 0 rfl) ?_
          refine gf_X7_61 E hW g20 dX7_bound_61 ?_
          refine lv_bipush (v := (10 : Int32)) E.1 E.2.1 dX7_bound_64 (by decide) ?_
          obtain ⟨g30, h⟩ := gd_r h
          refine r_lald E hW (pr_eq g30.1) g30.2 dX7_bound_66 ?_
          refine lv_ladd E.1 E.2.1 dX7_bound_67 ?_
          refine lv_goto (tgt := 86) E.1 E.2.1 dX7_bound_68 (by decide) ?_
          refine lv_l2i E.1 E.2.1 dX7_bound_86 rfl ?_
          exact e_i E hW hr hlk h dX7_bound_87
      · have h := ifn h g
        refine lv_iconst (v := (0 : Int32)) E.1 E.2.1 dX7_bound_35 (by decide) ?_
        exact e_i E hW hr hlk h dX7_bound_36
    refine lv_if_ne (tgt := 27) E.1 E.2.1 dX7_bound_20 (by decide) (fun g => ?_) (fun g => ?_)
    · have h := ifn h g
      refine lv_iconst (v := (0 : Int32)) E.1 E.2.1 dX7_bound_27 (by decide) ?_
      exact hJ15 _ _ _ _ _ _ _ _ _ h hW (lv_sub hl [0, 1, 2] rfl)
    · have h := ifp h g
      refine lv_iconst (v := (1 : Int32)) E.1 E.2.1 dX7_bound_23 (by decide) ?_
      refine lv_goto (tgt := 28) E.1 E.2.1 dX7_bound_24 (by decide) ?_
      exact hJ15 _ _ _ _ _ _ _ _ _ h hW (lv_sub hl [0, 1, 2] rfl)
set_option maxHeartbeats 4000000 in
set_option maxRecDepth 100000 in
theorem m_X7_power {l : Launch} {G : GP} {sz : Nat} {a0 : Int64} {a2 : Int32} {σ σ0 : St} {r0 : Int64} (h : f_X7_power a0 a2 σ = some (r0, σ0)) : Met l yX7_power [.code yX7_power cX7_power 3 (some .long)] ({ frames := 0, cells := 0, slots := 0, locals := 0 } : Room) (va_Pc [.long a0, .int a2] (PreC G skR sz σ)) (QO (PoC G skR σ0) (Aw G.2.2.2 skR.1 sz) (some (.long r0))) 0 0 (Aw G.2.2.2 skR.1 sz) := by
  refine mkMet (by decide +kernel) (Nat.le_of_ble_eq_true rfl) skR_ok ?_
  intro p e s m below meth c ls E hW hl hr hlk
  have hl : lv_has ls 3 [(0, .long a0), (2, .int a2)] := hl
  generalize Aw G.2.2.2 skR.1 s.heap.size = A0 at E hW ⊢
  generalize ([.long a0, .int a2] : List Value).toArray = args
  unfold f_X7_power at h
  refine lv_iload_n E.1 E.2.1 dX7_power_0 rfl (lv_at hl 1 rfl) ?_
  refine lv_if_ne (tgt := 8) E.1 E.2.1 dX7_power_1 (by decide) (fun g => ?_) (fun g => ?_)
  · have h := ifn h g
    refine lv_iload_n E.1 E.2.1 dX7_power_8 rfl (lv_at hl 1 rfl) ?_
    refine lv_iconst (v := (1 : Int32)) E.1 E.2.1 dX7_power_9 (by decide) ?_
    refine lv_icmp_ne (tgt := 17) E.1 E.2.1 dX7_power_10 (by decide) (fun g => ?_) (fun g => ?_)
    · have h := ifn h g
      refine lv_iload_n E.1 E.2.1 dX7_power_17 rfl (lv_at hl 1 rfl) ?_
      refine lv_iconst (v := (2 : Int32)) E.1 E.2.1 dX7_power_18 (by decide) ?_
      refine lv_icmp_ne (tgt := 28) E.1 E.2.1 dX7_power_19 (by decide) (fun g => ?_) (fun g => ?_)
      · have h := ifn h g
        refine lv_lload_n E.1 E.2.1 dX7_power_28 rfl (lv_at hl 0 rfl) ?_
        refine lv_lload_n E.1 E.2.1 dX7_power_29 rfl (lv_at hl 0 rfl) ?_
        refine lv_lmul E.1 E.2.1 dX7_power_30 ?_
        refine lv_lload_n E.1 E.2.1 dX7_power_31 rfl (lv_at hl 0 rfl) ?_
        refine lv_lmul E.1 E.2.1 dX7_power_32 ?_
        exact e_j E hW hr hlk h dX7_power_33
      · have h := ifp h g
        refine lv_lload_n E.1 E.2.1 dX7_power_22 rfl (lv_at hl 0 rfl) ?_
        refine lv_lload_n E.1 E.2.1 dX7_power_23 rfl (lv_at hl 0 rfl) ?_
        refine lv_lmul E.1 E.2.1 dX7_power_24 ?_
        refine lv_goto (tgt := 33) E.1 E.2.1 dX7_power_25 (by decide) ?_
        exact e_j E hW hr hlk h dX7_power_33
    · have h := ifp h g
      refine lv_lload_n E.1 E.2.1 dX7_power_13 rfl (lv_at hl 0 rfl) ?_
      refine lv_goto (tgt := 33) E.1 E.2.1 dX7_power_14 (by decide) ?_
      exact e_j E hW hr hlk h dX7_power_33
  · have h := ifp h g
    refine lv_lconst (v := (1 : Int64)) E.1 E.2.1 dX7_power_4 (by decide) ?_
    refine lv_goto (tgt := 33) E.1 E.2.1 dX7_power_5 (by decide) ?_
    exact e_j E hW hr hlk h dX7_power_33
set_option maxHeartbeats 4000000 in
set_option maxRecDepth 100000 in
theorem L_X7_value_91 {p : Program} {l : Launch} {e : Env} {s : State} {m : MethodId} {args : Array Value} {below : List Frame} {meth : Method} {c : Code} {G : GP} {A0 : Nat → Prop} {σ0 : St} {r0 : Int32} {K158 : Nat → Int32 → Int64 → Int64 → St → Option (Int32 × St)} (E : En p m c s cX7_value 10 yX7_value.cls G A0) (hr : meth.sig.returnType = (some .int)) (hlk : meth.locks = false) (hK158 : ∀ (q37 : Nat) (x38 : Int32) (x39 : Int64) (x40 : Int64) (σ36 : St) (H : Heap) (locs : List Loc) (ls : Array Slot), K158 q37 x38 x39 x40 σ36 = some (r0, σ0) → Wo G skR A0 s σ36 H locs → lv_has ls 10 [(0, .ref (G.2.2.2 + q37)), (4, .int x38), (5, .long x39), (7, .long x40)] → W p l e ({ frames := 3, cells := 0, slots := 0, locals := 64 } : Room) s m args below meth c H locs 0 0 (MQ below (QO (PoC G skR σ0) A0 (some (.int r0))) args s 0 0 A0) (F0 m 158 ls [])) : ∀ (n41 : Nat) (q29 : Nat) (x30 : Int32) (x31 : Int32) (x32 : Int32) (x33 : Int64) (x34 : Int64) (x35 : Int32) (σ28 : St) (H : Heap) (locs : List Loc) (ls : Array Slot), f_X7_value_L91 K158 n41 q29 x30 x31 x32 x33 x34 x35 σ28 = some (r0, σ0) → Wo G skR A0 s σ28 H locs → lv_has ls 10 [(0, .ref (G.2.2.2 + q29)), (2, .int x30), (3, .int x31), (4, .int x32), (5, .long x33), (7, .long x34), (9, .int x35)] → W p l e ({ frames := 3, cells := 0, slots := 0, locals := 64 } : Room) s m args below meth c H locs 0 0 (MQ below (QO (PoC G skR σ0) A0 (some (.int r0))) args s 0 0 A0) (F0 m 91 ls []) := by
  intro n41
  induction n41 with
  | zero =>
    intro q29 x30 x31 x32 x33 x34 x35 σ28 H locs ls h hW hl
    rw [f_X7_value_L91] at h
    cases h
  | succ n41 ih =>
    intro q29 x30 x31 x32 x33 x34 x35 σ28 H locs ls h hW hl
    rw [f_X7_value_L91] at h
    refine lv_iload E.1 E.2.1 dX7_value_91 (lv_at hl 6 rfl) ?_
    refine lv_bipush (v := (10 : Int32)) E.1 E.2.1 dX7_value_93 (by decide) ?_
    refine lv_icmp_ge (tgt := 158) E.1 E.2.1 dX7_value_95 (by decide) (fun g => ?_) (fun g => ?_)
    · have h := ifp h g
      exact hK158 _ _ _ _ _ _ _ _ h hW (lv_sub hl [0, 3, 4, 5] rfl)
    · have h := ifn h g
      refine lv_lload E.1 E.2.1 dX7_value_98 (lv_at hl 4 rfl) ?_
      refine lv_aload_n E.1 E.2.1 dX7_value_100 rfl (lv_at hl 0 rfl) ?_
      obtain ⟨g42, h⟩ := gd_r h
      refine gf_X7_61 E hW g42 dX7_value_101 ?_
      refine lv_iload E.1 E.2.1 dX7_value_104 (lv_at hl 6 rfl) ?_
      obtain ⟨g43, h⟩ := gd_r h
      refine r_lald E hW (pr_eq g43.1) g43.2 dX7_value_106 ?_
      refine lv_iload_n E.1 E.2.1 dX7_value_107 rfl (lv_at hl 1 rfl) ?_
      refine lv_i2l E.1 E.2.1 dX7_value_108 rfl ?_
      refine lv_iload E.1 E.2.1 dX7_value_109 (lv_at hl 6 rfl) ?_
      obtain ⟨x45, σ44, c46, h⟩ := obn_r h
      refine c_S (As := [.int x35]) (rest := [.long x30.toInt64, .long (σ28.2 (rR q29 24) x35.toNatClampNeg), .long x33]) E hW (m_X7_iOf c46) kw_1107 ws_X7_iOf yo_X7_iOf ⟨rfl, rfl⟩ ⟨(Nat.le_of_ble_eq_true rfl), (Nat.le_of_ble_eq_true rfl)⟩ (lv_size hl) (Nat.le_of_ble_eq_true rfl) ⟨(Nat.le_of_ble_eq_true rfl), (Nat.le_of_ble_eq_true rfl)⟩ rfl dX7_value_111 (fun H locs hW => ?_)
      refine W.eq (g2 := F0 m 114 ls [.int x45, .long x30.toInt64, .long (σ28.2 (rR q29 24) x35.toNatClampNeg), .long x33]) rfl ?_
      obtain ⟨x48, σ47, c49, h⟩ := obn_r h
      refine c_S (As := [.long x30.toInt64, .int x45]) (rest := [.long (σ28.2 (rR q29 24) x35.toNatClampNeg), .long x33]) E hW (m_X7_power c49) kw_1227 ws_X7_power yo_X7_power ⟨rfl, rfl⟩ ⟨(Nat.le_of_ble_eq_true rfl), (Nat.le_of_ble_eq_true rfl)⟩ (lv_size hl) (Nat.le_of_ble_eq_true rfl) ⟨(Nat.le_of_ble_eq_true rfl), (Nat.le_of_ble_eq_true rfl)⟩ rfl dX7_value_114 (fun H locs hW => ?_)
      refine W.eq (g2 := F0 m 117 ls [.long x48, .long (σ28.2 (rR q29 24) x35.toNatClampNeg), .long x33]) rfl ?_
      refine lv_lmul E.1 E.2.1 dX7_value_117 ?_
      refine lv_iload_n E.1 E.2.1 dX7_value_118 rfl (lv_at hl 2 rfl) ?_
      refine lv_i2l E.1 E.2.1 dX7_value_119 rfl ?_
      refine lv_iload E.1 E.2.1 dX7_value_120 (lv_at hl 6 rfl) ?_
      obtain ⟨x51, σ50, c52, h⟩ := obn_r h
      refine c_S (As := [.int x35]) (rest := [.long x31.toInt64, .long ((σ28.2 (rR q29 24) x35.toNatClampNeg) * x48), .long x33]) E hW (m_X7_jOf c52) kw_1110 ws_X7_jOf yo_X7_jOf ⟨rfl, rfl⟩ ⟨(Nat.le_of_ble_eq_true rfl), (Nat.le_of_ble_eq_true rfl)⟩ (lv_size hl) (Nat.le_of_ble_eq_true rfl) ⟨(Nat.le_of_ble_eq_true rfl), (Nat.le_of_ble_eq_true rfl)⟩ rfl dX7_value_122 (fun H locs hW => ?_)
      refine W.eq (g2 := F0 m 125 ls [.int x51, .long x31.toInt64, .long ((σ28.2 (rR q29 24) x35.toNatClampNeg) * x48), .long x33]) rfl ?_
      obtain ⟨x54, σ53, c55, h⟩ := obn_r h
      refine c_S (As := [.long x31.toInt64, .int x51]) (rest := [.long ((σ28.2 (rR q29 24) x35.toNatClampNeg) * x48), .long x33]) E hW (m_X7_power c55) kw_1227 ws_X7_power yo_X7_power ⟨rfl, rfl⟩ ⟨(Nat.le_of_ble_eq_true rfl), (Nat.le_of_ble_eq_true rfl)⟩ (lv_size hl) (Nat.le_of_ble_eq_true rfl) ⟨(Nat.le_of_ble_eq_true rfl), (Nat.le_of_ble_eq_true rfl)⟩ rfl dX7_value_125 (fun H locs hW => ?_)
      refine W.eq (g2 := F0 m 128 ls [.long x54, .long ((σ28.2 (rR q29 24) x35.toNatClampNeg) * x48), .long x33]) rfl ?_
      refine lv_lmul E.1 E.2.1 dX7_value_128 ?_
      refine lv_ldc2 (v := (1000 : Int64)) E.1 E.2.1 E.2.2.2.1 (E.wd kw_1096) dX7_value_129 ?_
      refine lv_iconst (v := (3 : Int32)) E.1 E.2.1 dX7_value_132 (by decide) ?_
      refine lv_iload E.1 E.2.1 dX7_value_133 (lv_at hl 6 rfl) ?_
      obtain ⟨x57, σ56, c58, h⟩ := obn_r h
      refine c_S (As := [.int x35]) (rest := [.int (3 : Int32), .long (1000 : Int64), .long (((σ28.2 (rR q29 24) x35.toNatClampNeg) * x48) * x54), .long x33]) E hW (m_X7_iOf c58) kw_1107 ws_X7_iOf yo_X7_iOf ⟨rfl, rfl⟩ ⟨(Nat.le_of_ble_eq_true rfl), (Nat.le_of_ble_eq_true rfl)⟩ (lv_size hl) (Nat.le_of_ble_eq_true rfl) ⟨(Nat.le_of_ble_eq_true rfl), (Nat.le_of_ble_eq_true rfl)⟩ rfl dX7_value_135 (fun H locs hW => ?_)
      refine W.eq (g2 := F0 m 138 ls [.int x57, .int (3 : Int32), .long (1000 : Int64), .long (((σ28.2 (rR q29 24) x35.toNatClampNeg) * x48) * x54), .long x33]) rfl ?_
      refine lv_isub E.1 E.2.1 dX7_value_138 ?_
      refine lv_iload E.1 E.2.1 dX7_value_139 (lv_at hl 6 rfl) ?_
      obtain ⟨x60, σ59, c61, h⟩ := obn_r h
      refine c_S (As := [.int x35]) (rest := [.int ((3 : Int32) - x57), .long (1000 : Int64), .long (((σ28.2 (rR q29 24) x35.toNatClampNeg) * x48) * x54), .long x33]) E hW (m_X7_jOf c61) kw_1110 ws_X7_jOf yo_X7_jOf ⟨rfl, rfl⟩ ⟨(Nat.le_of_ble_eq_true rfl), (Nat.le_of_ble_eq_true rfl)⟩ (lv_size hl) (Nat.le_of_ble_eq_true rfl) ⟨(Nat.le_of_ble_eq_true rfl), (Nat.le_of_ble_eq_true rfl)⟩ rfl dX7_value_141 (fun H locs hW => ?_)
      refine W.eq (g2 := F0 m 144 ls [.int x60, .int ((3 : Int32) - x57), .long (1000 : Int64), .long (((σ28.2 (rR q29 24) x35.toNatClampNeg) * x48) * x54), .long x33]) rfl ?_
      refine lv_isub E.1 E.2.1 dX7_value_144 ?_
      obtain ⟨x63, σ62, c64, h⟩ := obn_r h
      refine c_S (As := [.long (1000 : Int64), .int (((3 : Int32) - x57) - x60)]) (rest := [.long (((σ28.2 (rR q29 24) x35.toNatClampNeg) * x48) * x54), .long x33]) E hW (m_X7_power c64) kw_1227 ws_X7_power yo_X7_power ⟨rfl, rfl⟩ ⟨(Nat.le_of_ble_eq_true rfl), (Nat.le_of_ble_eq_true rfl)⟩ (lv_size hl) (Nat.le_of_ble_eq_true rfl) ⟨(Nat.le_of_ble_eq_true rfl), (Nat.le_of_ble_eq_true rfl)⟩ rfl dX7_value_145 (fun H locs hW => ?_)
      refine W.eq (g2 := F0 m 148 ls [.long x63, .long (((σ28.2 (rR q29 24) x35.toNatClampNeg) * x48) * x54), .long x33]) rfl ?_
      refine lv_lmul E.1 E.2.1 dX7_value_148 ?_
      refine lv_ladd E.1 E.2.1 dX7_value_149 ?_
      refine lv_topl (fun x65 ex65 => ?_)
      have h := bnd_r ex65 h
      refine lv_lstore (lv' := [(5, .long x65), (0, .ref (G.2.2.2 + q29)), (2, .int x30), (3, .int x31), (4, .int x32), (7, .long x34), (9, .int x35)]) E.1 E.2.1 dX7_value_150 hl (by decide) rfl (fun ls hl => ?_)
      obtain ⟨x66, ex66⟩ : ∃ y : Int32, y = x35 + (1 : Int32) := ⟨_, rfl⟩
      have h := bnd_r ex66 h
      refine lv_iinc (v := x66) (lv' := [(9, .int x66), (5, .long x65), (0, .ref (G.2.2.2 + q29)), (2, .int x30), (3, .int x31), (4, .int x32), (7, .long x34)]) E.1 E.2.1 dX7_value_152 hl (k := 6) rfl (by rw [ex66]; rfl) (by decide) rfl (fun ls hl => ?_)
      refine lv_goto (tgt := 91) E.1 E.2.1 dX7_value_155 (by decide) ?_
      exact ih _ _ _ _ _ _ _ _ _ _ _ h hW (lv_sub hl [2, 3, 4, 5, 1, 6, 0] rfl)
set_option maxHeartbeats 4000000 in
set_option maxRecDepth 100000 in
theorem m_X7_value {l : Launch} {G : GP} {sz : Nat} {q0 : Nat} {a1 : Int32} {a2 : Int32} {a3 : Int32} {a4 : Int32} {σ σ0 : St} {r0 : Int32} (h : f_X7_value q0 a1 a2 a3 a4 σ = some (r0, σ0)) : Met l yX7_value [.code yX7_value cX7_value 10 (some .int)] ({ frames := 3, cells := 0, slots := 0, locals := 64 } : Room) (va_Pc [.ref (G.2.2.2 + q0), .int a1, .int a2, .int a3, .int a4] (PreC G skR sz σ)) (QO (PoC G skR σ0) (Aw G.2.2.2 skR.1 sz) (some (.int r0))) 0 0 (Aw G.2.2.2 skR.1 sz) := by
  refine mkMet (by decide +kernel) (Nat.le_of_ble_eq_true rfl) skR_ok ?_
  intro p e s m below meth c ls E hW hl hr hlk
  have hl : lv_has ls 10 [(0, .ref (G.2.2.2 + q0)), (1, .int a1), (2, .int a2), (3, .int a3), (4, .int a4)] := hl
  generalize Aw G.2.2.2 skR.1 s.heap.size = A0 at E hW ⊢
  generalize ([.ref (G.2.2.2 + q0), .int a1, .int a2, .int a3, .int a4] : List Value).toArray = args
  unfold f_X7_value at h
  refine lv_aload_n E.1 E.2.1 dX7_value_0 rfl (lv_at hl 0 rfl) ?_
  refine lv_iconst (v := (0 : Int32)) E.1 E.2.1 dX7_value_1 (by decide) ?_
  obtain ⟨g1, h⟩ := gd_r h
  refine pf_X7_79 E hW g1 dX7_value_2 (fun σ2 H locs eσ2 hW => ?_)
  have h := bnd_r eσ2 h
  refine lv_aload_n E.1 E.2.1 dX7_value_5 rfl (lv_at hl 0 rfl) ?_
  refine lv_iload_n E.1 E.2.1 dX7_value_6 rfl (lv_at hl 1 rfl) ?_
  obtain ⟨x4, σ3, c5, h⟩ := obn_r h
  refine c_V (As := [.int a1]) (rest := []) E hW (m_X7_noModel c5) g1 rfl kw_1204 wv_X7_noModel yo_X7_noModel ⟨rfl, rfl⟩ ⟨(Nat.le_of_ble_eq_true rfl), (Nat.le_of_ble_eq_true rfl)⟩ (lv_size hl) (Nat.le_of_ble_eq_true rfl) ⟨(Nat.le_of_ble_eq_true rfl), (Nat.le_of_ble_eq_true rfl)⟩ rfl dX7_value_7 (fun H locs hW => ?_)
  refine W.eq (g2 := F0 m 10 ls [.int x4]) rfl ?_
  refine lv_if_ne (tgt := 62) E.1 E.2.1 dX7_value_10 (by decide) (fun g => ?_) (fun g => ?_)
  · have h := ifn h g
    refine lv_iconst (v := (0 : Int32)) E.1 E.2.1 dX7_value_62 (by decide) ?_
    exact e_i E hW hr hlk h dX7_value_63
  · have h := ifp h g
    refine lv_aload_n E.1 E.2.1 dX7_value_13 rfl (lv_at hl 0 rfl) ?_
    refine lv_iload_n E.1 E.2.1 dX7_value_14 rfl (lv_at hl 2 rfl) ?_
    refine lv_sipush (v := (-1000 : Int32)) E.1 E.2.1 dX7_value_15 (by decide) ?_
    refine lv_sipush (v := (1000 : Int32)) E.1 E.2.1 dX7_value_18 (by decide) ?_
    obtain ⟨x7, σ6, c8, h⟩ := obn_r h
    refine c_S (As := [.int a2, .int (-1000 : Int32), .int (1000 : Int32)]) (rest := [.ref (G.2.2.2 + q0)]) E hW (m_X7_in c8) kw_1012 ws_X7_in yo_X7_in ⟨rfl, rfl⟩ ⟨(Nat.le_of_ble_eq_true rfl), (Nat.le_of_ble_eq_true rfl)⟩ (lv_size hl) (Nat.le_of_ble_eq_true rfl) ⟨(Nat.le_of_ble_eq_true rfl), (Nat.le_of_ble_eq_true rfl)⟩ rfl dX7_value_21 (fun H locs hW => ?_)
    refine W.eq (g2 := F0 m 24 ls [.int x7, .ref (G.2.2.2 + q0)]) rfl ?_
    obtain ⟨J17, eJ17, h⟩ := bnd_x h
    have hJ17 : ∀ (q10 : Nat) (x11 : Int32) (x12 : Int32) (x13 : Int32) (x14 : Int32) (x15 : Int32) (q16 : Nat) (σ9 : St) (H : Heap) (locs : List Loc) (ls : Array Slot), J17 q10 x11 x12 x13 x14 x15 q16 σ9 = some (r0, σ0) → Wo G skR A0 s σ9 H locs → lv_has ls 10 [(0, .ref (G.2.2.2 + q10)), (1, .int x11), (2, .int x12), (3, .int x13), (4, .int x14)] → W p l e ({ frames := 3, cells := 0, slots := 0, locals := 64 } : Room) s m args below meth c H locs 0 0 (MQ below (QO (PoC G skR σ0) A0 (some (.int r0))) args s 0 0 A0) (F0 m 55 ls [.int x15, .ref (G.2.2.2 + q16)]) := by
      intro q10 x11 x12 x13 x14 x15 q16 σ9 H locs ls h hW hl
      have h := jr8 eJ17 h
      refine lv_iconst (v := (3 : Int32)) E.1 E.2.1 dX7_value_55 (by decide) ?_
      obtain ⟨g18, h⟩ := gd_r h
      obtain ⟨x20, σ19, c21, h⟩ := obn_r h
      refine c_V (As := [.int x15, .int (3 : Int32)]) (rest := []) E hW (m_X7_fails c21) g18 rfl kw_1015 wv_X7_fails yo_X7_fails ⟨rfl, rfl⟩ ⟨(Nat.le_of_ble_eq_true rfl), (Nat.le_of_ble_eq_true rfl)⟩ (lv_size hl) (Nat.le_of_ble_eq_true rfl) ⟨(Nat.le_of_ble_eq_true rfl), (Nat.le_of_ble_eq_true rfl)⟩ rfl dX7_value_56 (fun H locs hW => ?_)
      refine W.eq (g2 := F0 m 59 ls [.int x20]) rfl ?_
      refine lv_if_eq (tgt := 64) E.1 E.2.1 dX7_value_59 (by decide) (fun g => ?_) (fun g => ?_)
      · have h := ifp h g
        refine lv_aload_n E.1 E.2.1 dX7_value_64 rfl (lv_at hl 0 rfl) ?_
        obtain ⟨g22, h⟩ := gd_r h
        refine gf_X7_17 E hW g22 dX7_value_65 ?_
        refine lv_iload_n E.1 E.2.1 dX7_value_68 rfl (lv_at hl 1 rfl) ?_
        refine lv_aload_n E.1 E.2.1 dX7_value_69 rfl (lv_at hl 0 rfl) ?_
        refine gf_X7_61 E hW g22 dX7_value_70 ?_
        obtain ⟨_r, σ23, c24, h⟩ := obn_r h
        refine c_S (As := [.ref (G.2.2.2 + (rR q10 8)), .int x11, .ref (G.2.2.2 + (rR q10 24))]) (rest := []) E hW (m_X7_take c24) kw_1148 ws_X7_take yo_X7_take ⟨rfl, rfl⟩ ⟨(Nat.le_of_ble_eq_true rfl), (Nat.le_of_ble_eq_true rfl)⟩ (lv_size hl) (Nat.le_of_ble_eq_true rfl) ⟨(Nat.le_of_ble_eq_true rfl), (Nat.le_of_ble_eq_true rfl)⟩ rfl dX7_value_73 (fun H locs hW => ?_)
        refine W.eq (g2 := F0 m 76 ls []) rfl ?_
        refine lv_lconst (v := (0 : Int64)) E.1 E.2.1 dX7_value_76 (by decide) ?_
        refine lv_lstore (lv' := [(5, .long (0 : Int64)), (0, .ref (G.2.2.2 + q10)), (1, .int x11), (2, .int x12), (3, .int x13), (4, .int x14)]) E.1 E.2.1 dX7_value_77 hl (by decide) rfl (fun ls hl => ?_)
        refine lv_ldc2 (v := (1000 : Int64)) E.1 E.2.1 E.2.2.2.1 (E.wd kw_1096) dX7_value_79 ?_
        refine lv_iconst (v := (3 : Int32)) E.1 E.2.1 dX7_value_82 (by decide) ?_
        obtain ⟨x26, σ25, c27, h⟩ := obn_r h
        refine c_S (As := [.long (1000 : Int64), .int (3 : Int32)]) (rest := []) E hW (m_X7_power c27) kw_1227 ws_X7_power yo_X7_power ⟨rfl, rfl⟩ ⟨(Nat.le_of_ble_eq_true rfl), (Nat.le_of_ble_eq_true rfl)⟩ (lv_size hl) (Nat.le_of_ble_eq_true rfl) ⟨(Nat.le_of_ble_eq_true rfl), (Nat.le_of_ble_eq_true rfl)⟩ rfl dX7_value_83 (fun H locs hW => ?_)
        refine W.eq (g2 := F0 m 86 ls [.long x26]) rfl ?_
        refine lv_lstore (lv' := [(7, .long x26), (5, .long (0 : Int64)), (0, .ref (G.2.2.2 + q10)), (1, .int x11), (2, .int x12), (3, .int x13), (4, .int x14)]) E.1 E.2.1 dX7_value_86 hl (by decide) rfl (fun ls hl => ?_)
        refine lv_iconst (v := (0 : Int32)) E.1 E.2.1 dX7_value_88 (by decide) ?_
        refine lv_istore (lv' := [(9, .int (0 : Int32)), (7, .long x26), (5, .long (0 : Int64)), (0, .ref (G.2.2.2 + q10)), (1, .int x11), (2, .int x12), (3, .int x13), (4, .int x14)]) E.1 E.2.1 dX7_value_89 hl (by decide) rfl (fun ls hl => ?_)
        refine L_X7_value_91 E hr hlk ?_ _ _ _ _ _ _ _ _ _ _ _ _ h hW (lv_sub hl [3, 5, 6, 7, 2, 1, 0] rfl)
        · intro q37 x38 x39 x40 σ36 H locs ls h hW hl
          refine lv_iload E.1 E.2.1 dX7_value_158 (lv_at hl 1 rfl) ?_
          refine lv_if_ne (tgt := 181) E.1 E.2.1 dX7_value_160 (by decide) (fun g => ?_) (fun g => ?_)
          · have h := ifn h g
            refine lv_lload E.1 E.2.1 dX7_value_181 (lv_at hl 2 rfl) ?_
            refine lv_lload E.1 E.2.1 dX7_value_183 (lv_at hl 3 rfl) ?_
            obtain ⟨x68, σ67, c69, h⟩ := obn_r h
            refine c_S (As := [.long x39, .long x40]) (rest := []) E hW (m_X7_up c69) kw_1125 ws_X7_up yo_X7_up ⟨rfl, rfl⟩ ⟨(Nat.le_of_ble_eq_true rfl), (Nat.le_of_ble_eq_true rfl)⟩ (lv_size hl) (Nat.le_of_ble_eq_true rfl) ⟨(Nat.le_of_ble_eq_true rfl), (Nat.le_of_ble_eq_true rfl)⟩ rfl dX7_value_185 (fun H locs hW => ?_)
            refine W.eq (g2 := F0 m 188 ls [.long x68]) rfl ?_
            refine lv_aload_n E.1 E.2.1 dX7_value_188 rfl (lv_at hl 0 rfl) ?_
            obtain ⟨g70, h⟩ := gd_r h
            refine gf_X7_61 E hW g70 dX7_value_189 ?_
            refine lv_bipush (v := (11 : Int32)) E.1 E.2.1 dX7_value_192 (by decide) ?_
            obtain ⟨g71, h⟩ := gd_r h
            refine r_lald E hW (pr_eq g71.1) g71.2 dX7_value_194 ?_
            refine lv_ladd E.1 E.2.1 dX7_value_195 ?_
            refine lv_l2i E.1 E.2.1 dX7_value_196 rfl ?_
            exact e_i E hW hr hlk h dX7_value_197
          · have h := ifp h g
            refine lv_lload E.1 E.2.1 dX7_value_163 (lv_at hl 2 rfl) ?_
            refine lv_lload E.1 E.2.1 dX7_value_165 (lv_at hl 3 rfl) ?_
            obtain ⟨x73, σ72, c74, h⟩ := obn_r h
            refine c_S (As := [.long x39, .long x40]) (rest := []) E hW (m_X7_down c74) kw_1119 ws_X7_down yo_X7_down ⟨rfl, rfl⟩ ⟨(Nat.le_of_ble_eq_true rfl), (Nat.le_of_ble_eq_true rfl)⟩ (lv_size hl) (Nat.le_of_ble_eq_true rfl) ⟨(Nat.le_of_ble_eq_true rfl), (Nat.le_of_ble_eq_true rfl)⟩ rfl dX7_value_167 (fun H locs hW => ?_)
            refine W.eq (g2 := F0 m 170 ls [.long x73]) rfl ?_
            refine lv_aload_n E.1 E.2.1 dX7_value_170 rfl (lv_at hl 0 rfl) ?_
            obtain ⟨g75, h⟩ := gd_r h
            refine gf_X7_61 E hW g75 dX7_value_171 ?_
            refine lv_bipush (v := (10 : Int32)) E.1 E.2.1 dX7_value_174 (by decide) ?_
            obtain ⟨g76, h⟩ := gd_r h
            refine r_lald E hW (pr_eq g76.1) g76.2 dX7_value_176 ?_
            refine lv_ladd E.1 E.2.1 dX7_value_177 ?_
            refine lv_goto (tgt := 196) E.1 E.2.1 dX7_value_178 (by decide) ?_
            refine lv_l2i E.1 E.2.1 dX7_value_196 rfl ?_
            exact e_i E hW hr hlk h dX7_value_197
      · have h := ifn h g
        refine lv_iconst (v := (0 : Int32)) E.1 E.2.1 dX7_value_62 (by decide) ?_
        exact e_i E hW hr hlk h dX7_value_63
    obtain ⟨J84, eJ84, h⟩ := bnd_x h
    have hJ84 : ∀ (q78 : Nat) (x79 : Int32) (x80 : Int32) (x81 : Int32) (x82 : Int32) (q83 : Nat) (σ77 : St) (H : Heap) (locs : List Loc) (ls : Array Slot), J84 q78 x79 x80 x81 x82 q83 σ77 = some (r0, σ0) → Wo G skR A0 s σ77 H locs → lv_has ls 10 [(0, .ref (G.2.2.2 + q78)), (1, .int x79), (2, .int x80), (3, .int x81), (4, .int x82)] → W p l e ({ frames := 3, cells := 0, slots := 0, locals := 64 } : Room) s m args below meth c H locs 0 0 (MQ below (QO (PoC G skR σ0) A0 (some (.int r0))) args s 0 0 A0) (F0 m 50 ls [.ref (G.2.2.2 + q83)]) := by
      intro q78 x79 x80 x81 x82 q83 σ77 H locs ls h hW hl
      have h := jr7 eJ84 h
      refine lv_iconst (v := (1 : Int32)) E.1 E.2.1 dX7_value_50 (by decide) ?_
      refine lv_goto (tgt := 55) E.1 E.2.1 dX7_value_51 (by decide) ?_
      exact hJ17 _ _ _ _ _ _ _ _ _ _ _ h hW (lv_sub hl [0, 1, 2, 3, 4] rfl)
    refine lv_if_eq (tgt := 50) E.1 E.2.1 dX7_value_24 (by decide) (fun g => ?_) (fun g => ?_)
    · have h := ifp h g
      exact hJ84 _ _ _ _ _ _ _ _ _ _ h hW (lv_sub hl [0, 1, 2, 3, 4] rfl)
    · have h := ifn h g
      refine lv_iload_n E.1 E.2.1 dX7_value_27 rfl (lv_at hl 3 rfl) ?_
      refine lv_sipush (v := (-1000 : Int32)) E.1 E.2.1 dX7_value_28 (by decide) ?_
      refine lv_sipush (v := (1000 : Int32)) E.1 E.2.1 dX7_value_31 (by decide) ?_
      obtain ⟨x86, σ85, c87, h⟩ := obn_r h
      refine c_S (As := [.int a3, .int (-1000 : Int32), .int (1000 : Int32)]) (rest := [.ref (G.2.2.2 + q0)]) E hW (m_X7_in c87) kw_1012 ws_X7_in yo_X7_in ⟨rfl, rfl⟩ ⟨(Nat.le_of_ble_eq_true rfl), (Nat.le_of_ble_eq_true rfl)⟩ (lv_size hl) (Nat.le_of_ble_eq_true rfl) ⟨(Nat.le_of_ble_eq_true rfl), (Nat.le_of_ble_eq_true rfl)⟩ rfl dX7_value_34 (fun H locs hW => ?_)
      refine W.eq (g2 := F0 m 37 ls [.int x86, .ref (G.2.2.2 + q0)]) rfl ?_
      refine lv_if_eq (tgt := 50) E.1 E.2.1 dX7_value_37 (by decide) (fun g => ?_) (fun g => ?_)
      · have h := ifp h g
        exact hJ84 _ _ _ _ _ _ _ _ _ _ h hW (lv_sub hl [0, 1, 2, 3, 4] rfl)
      · have h := ifn h g
        refine lv_iload E.1 E.2.1 dX7_value_40 (lv_at hl 4 rfl) ?_
        refine lv_iconst (v := (0 : Int32)) E.1 E.2.1 dX7_value_42 (by decide) ?_
        refine lv_iconst (v := (1 : Int32)) E.1 E.2.1 dX7_value_43 (by decide) ?_
        obtain ⟨x89, σ88, c90, h⟩ := obn_r h
        refine c_S (As := [.int a4, .int (0 : Int32), .int (1 : Int32)]) (rest := [.ref (G.2.2.2 + q0)]) E hW (m_X7_in c90) kw_1012 ws_X7_in yo_X7_in ⟨rfl, rfl⟩ ⟨(Nat.le_of_ble_eq_true rfl), (Nat.le_of_ble_eq_true rfl)⟩ (lv_size hl) (Nat.le_of_ble_eq_true rfl) ⟨(Nat.le_of_ble_eq_true rfl), (Nat.le_of_ble_eq_true rfl)⟩ rfl dX7_value_44 (fun H locs hW => ?_)
        refine W.eq (g2 := F0 m 47 ls [.int x89, .ref (G.2.2.2 + q0)]) rfl ?_
        refine lv_if_ne (tgt := 54) E.1 E.2.1 dX7_value_47 (by decide) (fun g => ?_) (fun g => ?_)
        · have h := ifn h g
          refine lv_iconst (v := (0 : Int32)) E.1 E.2.1 dX7_value_54 (by decide) ?_
          exact hJ17 _ _ _ _ _ _ _ _ _ _ _ h hW (lv_sub hl [0, 1, 2, 3, 4] rfl)
        · have h := ifp h g
          exact hJ84 _ _ _ _ _ _ _ _ _ _ h hW (lv_sub hl [0, 1, 2, 3, 4] rfl)
