set_option maxHeartbeats 4000000 in
set_option maxRecDepth 100000 in
theorem L_X2_highestDegree_4 {p : Program} {l : Launch} {e : Env} {s : State} {m : MethodId} {args : Array Value} {below : List Frame} {meth : Method} {c : Code} {G : GP} {A0 : Nat → Prop} {σ0 : St} {r0 : Int32} (E : En p m c s cX2_highestDegree 3 yX2_highestDegree.cls G A0) (hr : meth.sig.returnType = (some .int)) (hlk : meth.locks = false) : ∀ (n5 : Nat) (q2 : Nat) (x3 : Int32) (x4 : Int32) (σ1 : St) (H : Heap) (locs : List Loc) (ls : Array Slot), f_X2_highestDegree_L4 n5 q2 x3 x4 σ1 = some (r0, σ0) → Wo G skC A0 s σ1 H locs → lv_has ls 3 [(0, .ref (G.2.2.2 + q2)), (1, .int x3), (2, .int x4)] → W p l e ({ frames := 1, cells := 0, slots := 0, locals := 24 } : Room) s m args below meth c H locs 0 0 (MQ below (QO (PoC G skC σ0) A0 (some (.int r0))) args s 0 0 A0) (F0 m 4 ls []) := by
  intro n5
  induction n5 with
  | zero =>
    intro q2 x3 x4 σ1 H locs ls h hW hl
    rw [f_X2_highestDegree_L4] at h
    cases h
  | succ n5 ih =>
    intro q2 x3 x4 σ1 H locs ls h hW hl
    rw [f_X2_highestDegree_L4] at h
    refine lv_iload_n E.1 E.2.1 dX2_highestDegree_4 rfl (lv_at hl 2 rfl) ?_
    refine lv_bipush (v := (10 : Int32)) E.1 E.2.1 dX2_highestDegree_5 (by decide) ?_
    refine lv_icmp_ge (tgt := 43) E.1 E.2.1 dX2_highestDegree_7 (by decide) (fun g => ?_) (fun g => ?_)
    · have h := ifp h g
      refine lv_iload_n E.1 E.2.1 dX2_highestDegree_43 rfl (lv_at hl 1 rfl) ?_
      exact e_i E hW hr hlk h dX2_highestDegree_44
    · have h := ifn h g
      refine lv_aload_n E.1 E.2.1 dX2_highestDegree_10 rfl (lv_at hl 0 rfl) ?_
      obtain ⟨g6, h⟩ := gd_r h
      refine gf_X2_9 E hW g6 dX2_highestDegree_11 ?_
      refine lv_iload_n E.1 E.2.1 dX2_highestDegree_14 rfl (lv_at hl 2 rfl) ?_
      obtain ⟨g7, h⟩ := gd_r h
      refine r_lald E hW (pr_eq g7.1) g7.2 dX2_highestDegree_15 ?_
      refine lv_lconst (v := (0 : Int64)) E.1 E.2.1 dX2_highestDegree_16 (by decide) ?_
      refine r_lc_eq E dX2_highestDegree_17 dX2_highestDegree_18 (tgt := 37) (by decide) (fun g => ?_) (fun g => ?_)
      · have h := ifp h g
        obtain ⟨x8, ex8⟩ : ∃ y : Int32, y = x4 + (1 : Int32) := ⟨_, rfl⟩
        have h := bnd_r ex8 h
        refine lv_iinc (v := x8) (lv' := [(2, .int x8), (0, .ref (G.2.2.2 + q2)), (1, .int x3)]) E.1 E.2.1 dX2_highestDegree_37 hl (k := 2) rfl (by rw [ex8]; rfl) (by decide) rfl (fun ls hl => ?_)
        refine lv_goto (tgt := 4) E.1 E.2.1 dX2_highestDegree_40 (by decide) ?_
        exact ih _ _ _ _ _ _ _ h hW (lv_sub hl [1, 2, 0] rfl)
      · have h := ifn h g
        refine lv_iload_n E.1 E.2.1 dX2_highestDegree_21 rfl (lv_at hl 1 rfl) ?_
        refine r_getsN E hW 0 (by decide) rfl kw_732 dX2_highestDegree_22 (fun t9 Tt9 => ?_)
        refine lv_iload_n E.1 E.2.1 dX2_highestDegree_25 rfl (lv_at hl 2 rfl) ?_
        obtain ⟨g10, h⟩ := gd_r h
        refine r_tald E hW 0 Tt9 g10 dX2_highestDegree_26 ?_
        refine r_getsN E hW 1 (by decide) rfl kw_733 dX2_highestDegree_27 (fun t11 Tt11 => ?_)
        refine lv_iload_n E.1 E.2.1 dX2_highestDegree_30 rfl (lv_at hl 2 rfl) ?_
        obtain ⟨g12, h⟩ := gd_r h
        refine r_tald E hW 1 Tt11 g12 dX2_highestDegree_31 ?_
        refine lv_iadd E.1 E.2.1 dX2_highestDegree_32 ?_
        refine r_maxI E (lv_size hl) ⟨kw_747, kw_586, kw_19, kw_587⟩ ⟨(Nat.le_of_ble_eq_true rfl), (Nat.le_of_ble_eq_true rfl)⟩ ⟨(Nat.le_of_ble_eq_true rfl), (Nat.le_of_ble_eq_true rfl)⟩ dX2_highestDegree_33 ?_
        refine lv_topi (fun x13 ex13 => ?_)
        have h := bnd_r ex13 h
        refine lv_istore_n (lv' := [(1, .int x13), (0, .ref (G.2.2.2 + q2)), (2, .int x4)]) E.1 E.2.1 dX2_highestDegree_36 rfl hl (by decide) rfl (fun ls hl => ?_)
        obtain ⟨x14, ex14⟩ : ∃ y : Int32, y = x4 + (1 : Int32) := ⟨_, rfl⟩
        have h := bnd_r ex14 h
        refine lv_iinc (v := x14) (lv' := [(2, .int x14), (1, .int x13), (0, .ref (G.2.2.2 + q2))]) E.1 E.2.1 dX2_highestDegree_37 hl (k := 2) rfl (by rw [ex14]; rfl) (by decide) rfl (fun ls hl => ?_)
        refine lv_goto (tgt := 4) E.1 E.2.1 dX2_highestDegree_40 (by decide) ?_
        exact ih _ _ _ _ _ _ _ h hW (lv_sub hl [2, 1, 0] rfl)
set_option maxHeartbeats 4000000 in
set_option maxRecDepth 100000 in
theorem m_X2_highestDegree {l : Launch} {G : GP} {sz : Nat} {q0 : Nat} {σ σ0 : St} {r0 : Int32} (h : f_X2_highestDegree q0 σ = some (r0, σ0)) : Met l yX2_highestDegree [.code yX2_highestDegree cX2_highestDegree 3 (some .int)] ({ frames := 1, cells := 0, slots := 0, locals := 24 } : Room) (va_Pc [.ref (G.2.2.2 + q0)] (PreC G skC sz σ)) (QO (PoC G skC σ0) (Aw G.2.2.2 skC.1 sz) (some (.int r0))) 0 0 (Aw G.2.2.2 skC.1 sz) := by
  refine mkMet (by decide +kernel) (Nat.le_of_ble_eq_true rfl) skC_ok ?_
  intro p e s m below meth c ls E hW hl hr hlk
  have hl : lv_has ls 3 [(0, .ref (G.2.2.2 + q0))] := hl
  generalize Aw G.2.2.2 skC.1 s.heap.size = A0 at E hW ⊢
  generalize ([.ref (G.2.2.2 + q0)] : List Value).toArray = args
  unfold f_X2_highestDegree at h
  refine lv_iconst (v := (-1 : Int32)) E.1 E.2.1 dX2_highestDegree_0 (by decide) ?_
  refine lv_istore_n (lv' := [(1, .int (-1 : Int32)), (0, .ref (G.2.2.2 + q0))]) E.1 E.2.1 dX2_highestDegree_1 rfl hl (by decide) rfl (fun ls hl => ?_)
  refine lv_iconst (v := (0 : Int32)) E.1 E.2.1 dX2_highestDegree_2 (by decide) ?_
  refine lv_istore_n (lv' := [(2, .int (0 : Int32)), (1, .int (-1 : Int32)), (0, .ref (G.2.2.2 + q0))]) E.1 E.2.1 dX2_highestDegree_3 rfl hl (by decide) rfl (fun ls hl => ?_)
  refine L_X2_highestDegree_4 E hr hlk _ _ _ _ _ _ _ _ h hW (lv_sub hl [2, 1, 0] rfl)
set_option maxHeartbeats 4000000 in
set_option maxRecDepth 100000 in
theorem L_X2_contains_14 {p : Program} {l : Launch} {e : Env} {s : State} {m : MethodId} {args : Array Value} {below : List Frame} {meth : Method} {c : Code} {G : GP} {A0 : Nat → Prop} {σ0 : St} {r0 : Int32} {K74 : Nat → Int64 → Int64 → St → Option (Int32 × St)} (E : En p m c s cX2_contains 9 yX2_contains.cls G A0) (hr : meth.sig.returnType = (some .boolean)) (hlk : meth.locks = false) (hK74 : ∀ (q11 : Nat) (x12 : Int64) (x13 : Int64) (σ10 : St) (H : Heap) (locs : List Loc) (ls : Array Slot), K74 q11 x12 x13 σ10 = some (r0, σ0) → Wo G skC A0 s σ10 H locs → lv_has ls 9 [(0, .ref (G.2.2.2 + q11)), (2, .long x12), (4, .long x13)] → W p l e ({ frames := 2, cells := 0, slots := 0, locals := 46 } : Room) s m args below meth c H locs 0 0 (MQ below (QO (PoC G skC σ0) A0 (some (.int r0))) args s 0 0 A0) (F0 m 74 ls [])) : ∀ (n14 : Nat) (q5 : Nat) (q6 : Nat) (x7 : Int64) (x8 : Int64) (x9 : Int32) (σ4 : St) (H : Heap) (locs : List Loc) (ls : Array Slot), f_X2_contains_L14 K74 n14 q5 q6 x7 x8 x9 σ4 = some (r0, σ0) → Wo G skC A0 s σ4 H locs → lv_has ls 9 [(0, .ref (G.2.2.2 + q5)), (1, .ref (G.2.2.2 + q6)), (2, .long x7), (4, .long x8), (6, .int x9)] → W p l e ({ frames := 2, cells := 0, slots := 0, locals := 46 } : Room) s m args below meth c H locs 0 0 (MQ below (QO (PoC G skC σ0) A0 (some (.int r0))) args s 0 0 A0) (F0 m 14 ls []) := by
  intro n14
  induction n14 with
  | zero =>
    intro q5 q6 x7 x8 x9 σ4 H locs ls h hW hl
    rw [f_X2_contains_L14] at h
    cases h
  | succ n14 ih =>
    intro q5 q6 x7 x8 x9 σ4 H locs ls h hW hl
    rw [f_X2_contains_L14] at h
    refine lv_iload E.1 E.2.1 dX2_contains_14 (lv_at hl 4 rfl) ?_
    refine lv_bipush (v := (10 : Int32)) E.1 E.2.1 dX2_contains_16 (by decide) ?_
    refine lv_icmp_ge (tgt := 74) E.1 E.2.1 dX2_contains_18 (by decide) (fun g => ?_) (fun g => ?_)
    · have h := ifp h g
      exact hK74 _ _ _ _ _ _ _ h hW (lv_sub hl [0, 2, 3] rfl)
    · have h := ifn h g
      refine lv_aload_n E.1 E.2.1 dX2_contains_21 rfl (lv_at hl 1 rfl) ?_
      obtain ⟨g15, h⟩ := gd_r h
      refine gf_X2_9 E hW g15 dX2_contains_22 ?_
      refine lv_iload E.1 E.2.1 dX2_contains_25 (lv_at hl 4 rfl) ?_
      obtain ⟨g16, h⟩ := gd_r h
      refine r_lald E hW (pr_eq g16.1) g16.2 dX2_contains_27 ?_
      refine lv_aload_n E.1 E.2.1 dX2_contains_28 rfl (lv_at hl 0 rfl) ?_
      obtain ⟨g17, h⟩ := gd_r h
      refine gf_X2_9 E hW g17 dX2_contains_29 ?_
      refine lv_iload E.1 E.2.1 dX2_contains_32 (lv_at hl 4 rfl) ?_
      obtain ⟨g18, h⟩ := gd_r h
      refine r_lald E hW (pr_eq g18.1) g18.2 dX2_contains_34 ?_
      refine lv_lsub E.1 E.2.1 dX2_contains_35 ?_
      refine lv_topl (fun x19 ex19 => ?_)
      have h := bnd_r ex19 h
      refine lv_lstore (lv' := [(7, .long x19), (0, .ref (G.2.2.2 + q5)), (1, .ref (G.2.2.2 + q6)), (2, .long x7), (4, .long x8), (6, .int x9)]) E.1 E.2.1 dX2_contains_36 hl (by decide) rfl (fun ls hl => ?_)
      refine lv_lload_n E.1 E.2.1 dX2_contains_38 rfl (lv_at hl 3 rfl) ?_
      refine lv_lload E.1 E.2.1 dX2_contains_39 (lv_at hl 0 rfl) ?_
      refine r_getsN E hW 3 (by decide) rfl kw_506 dX2_contains_41 (fun t20 Tt20 => ?_)
      refine lv_iload E.1 E.2.1 dX2_contains_44 (lv_at hl 5 rfl) ?_
      obtain ⟨g21, h⟩ := gd_r h
      refine r_tald E hW 3 Tt20 g21 dX2_contains_46 ?_
      obtain ⟨x23, σ22, c24, h⟩ := obn_r h
      refine c_SN (As := [.long x19, .int ((stL 3).getD x9.toNatClampNeg 0)]) (rest := [.long x7]) E hW (m_X6_rangeLow c24) kw_759 ws_X6_rangeLow yo_X6_rangeLow ⟨rfl, rfl⟩ ⟨(Nat.le_of_ble_eq_true rfl), (Nat.le_of_ble_eq_true rfl)⟩ (lv_size hl) (Nat.le_of_ble_eq_true rfl) ⟨(Nat.le_of_ble_eq_true rfl), (Nat.le_of_ble_eq_true rfl)⟩ rfl dX2_contains_47 (fun H locs hW => ?_)
      refine W.eq (g2 := F0 m 50 ls [.long x23, .long x7]) rfl ?_
      refine lv_ladd E.1 E.2.1 dX2_contains_50 ?_
      refine lv_topl (fun x25 ex25 => ?_)
      have h := bnd_r ex25 h
      refine lv_lstore_n (lv' := [(2, .long x25), (7, .long x19), (0, .ref (G.2.2.2 + q5)), (1, .ref (G.2.2.2 + q6)), (4, .long x8), (6, .int x9)]) E.1 E.2.1 dX2_contains_51 rfl hl (by decide) rfl (fun ls hl => ?_)
      refine lv_lload E.1 E.2.1 dX2_contains_52 (lv_at hl 4 rfl) ?_
      refine lv_lload E.1 E.2.1 dX2_contains_54 (lv_at hl 1 rfl) ?_
      refine r_getsN E hW 3 (by decide) rfl kw_506 dX2_contains_56 (fun t26 Tt26 => ?_)
      refine lv_iload E.1 E.2.1 dX2_contains_59 (lv_at hl 5 rfl) ?_
      refine r_tald E hW 3 Tt26 g21 dX2_contains_61 ?_
      obtain ⟨x28, σ27, c29, h⟩ := obn_r h
      refine c_SN (As := [.long x19, .int ((stL 3).getD x9.toNatClampNeg 0)]) (rest := [.long x8]) E hW (m_X6_rangeHigh c29) kw_760 ws_X6_rangeHigh yo_X6_rangeHigh ⟨rfl, rfl⟩ ⟨(Nat.le_of_ble_eq_true rfl), (Nat.le_of_ble_eq_true rfl)⟩ (lv_size hl) (Nat.le_of_ble_eq_true rfl) ⟨(Nat.le_of_ble_eq_true rfl), (Nat.le_of_ble_eq_true rfl)⟩ rfl dX2_contains_62 (fun H locs hW => ?_)
      refine W.eq (g2 := F0 m 65 ls [.long x28, .long x8]) rfl ?_
      refine lv_ladd E.1 E.2.1 dX2_contains_65 ?_
      refine lv_topl (fun x30 ex30 => ?_)
      have h := bnd_r ex30 h
      refine lv_lstore (lv' := [(4, .long x30), (2, .long x25), (7, .long x19), (0, .ref (G.2.2.2 + q5)), (1, .ref (G.2.2.2 + q6)), (6, .int x9)]) E.1 E.2.1 dX2_contains_66 hl (by decide) rfl (fun ls hl => ?_)
      obtain ⟨x31, ex31⟩ : ∃ y : Int32, y = x9 + (1 : Int32) := ⟨_, rfl⟩
      have h := bnd_r ex31 h
      refine lv_iinc (v := x31) (lv' := [(6, .int x31), (4, .long x30), (2, .long x25), (7, .long x19), (0, .ref (G.2.2.2 + q5)), (1, .ref (G.2.2.2 + q6))]) E.1 E.2.1 dX2_contains_68 hl (k := 5) rfl (by rw [ex31]; rfl) (by decide) rfl (fun ls hl => ?_)
      refine lv_goto (tgt := 14) E.1 E.2.1 dX2_contains_71 (by decide) ?_
      exact ih _ _ _ _ _ _ _ _ _ h hW (lv_sub hl [4, 5, 2, 1, 0] rfl)
set_option maxHeartbeats 4000000 in
set_option maxRecDepth 100000 in
theorem m_X2_contains {l : Launch} {G : GP} {sz : Nat} {q0 : Nat} {q1 : Nat} {σ σ0 : St} {r0 : Int32} (h : f_X2_contains q0 q1 σ = some (r0, σ0)) : Met l yX2_contains [.code yX2_contains cX2_contains 9 (some .boolean)] ({ frames := 2, cells := 0, slots := 0, locals := 46 } : Room) (va_Pc [.ref (G.2.2.2 + q0), .ref (G.2.2.2 + q1)] (PreC G skC sz σ)) (QO (PoC G skC σ0) (Aw G.2.2.2 skC.1 sz) (some (.int r0))) 0 0 (Aw G.2.2.2 skC.1 sz) := by
  refine mkMet (by decide +kernel) (Nat.le_of_ble_eq_true rfl) skC_ok ?_
  intro p e s m below meth c ls E hW hl hr hlk
  have hl : lv_has ls 9 [(0, .ref (G.2.2.2 + q0)), (1, .ref (G.2.2.2 + q1))] := hl
  generalize Aw G.2.2.2 skC.1 s.heap.size = A0 at E hW ⊢
  generalize ([.ref (G.2.2.2 + q0), .ref (G.2.2.2 + q1)] : List Value).toArray = args
  unfold f_X2_contains at h
  refine lv_aload_n E.1 E.2.1 dX2_contains_0 rfl (lv_at hl 1 rfl) ?_
  obtain ⟨g1, h⟩ := gd_r h
  refine gf_X2_21 E hW g1 dX2_contains_1 ?_
  refine lv_topl (fun x2 ex2 => ?_)
  have h := bnd_r ex2 h
  refine lv_lstore_n (lv' := [(2, .long x2), (0, .ref (G.2.2.2 + q0)), (1, .ref (G.2.2.2 + q1))]) E.1 E.2.1 dX2_contains_4 rfl hl (by decide) rfl (fun ls hl => ?_)
  refine lv_aload_n E.1 E.2.1 dX2_contains_5 rfl (lv_at hl 2 rfl) ?_
  refine gf_X2_25 E hW g1 dX2_contains_6 ?_
  refine lv_topl (fun x3 ex3 => ?_)
  have h := bnd_r ex3 h
  refine lv_lstore (lv' := [(4, .long x3), (2, .long x2), (0, .ref (G.2.2.2 + q0)), (1, .ref (G.2.2.2 + q1))]) E.1 E.2.1 dX2_contains_9 hl (by decide) rfl (fun ls hl => ?_)
  refine lv_iconst (v := (0 : Int32)) E.1 E.2.1 dX2_contains_11 (by decide) ?_
  refine lv_istore (lv' := [(6, .int (0 : Int32)), (4, .long x3), (2, .long x2), (0, .ref (G.2.2.2 + q0)), (1, .ref (G.2.2.2 + q1))]) E.1 E.2.1 dX2_contains_12 hl (by decide) rfl (fun ls hl => ?_)
  refine L_X2_contains_14 E hr hlk ?_ _ _ _ _ _ _ _ _ _ _ h hW (lv_sub hl [3, 4, 2, 1, 0] rfl)
  · intro q11 x12 x13 σ10 H locs ls h hW hl
    refine lv_lload_n E.1 E.2.1 dX2_contains_74 rfl (lv_at hl 1 rfl) ?_
    refine lv_aload_n E.1 E.2.1 dX2_contains_75 rfl (lv_at hl 0 rfl) ?_
    obtain ⟨g32, h⟩ := gd_r h
    refine gf_X2_21 E hW g32 dX2_contains_76 ?_
    refine r_lc_lt E dX2_contains_79 dX2_contains_80 (tgt := 97) (by decide) (fun g => ?_) (fun g => ?_)
    · have h := ifp h g
      refine lv_iconst (v := (0 : Int32)) E.1 E.2.1 dX2_contains_97 (by decide) ?_
      exact e_z E hW hr hlk (by decide) h dX2_contains_98
    · have h := ifn h g
      refine lv_lload E.1 E.2.1 dX2_contains_83 (lv_at hl 2 rfl) ?_
      refine lv_aload_n E.1 E.2.1 dX2_contains_85 rfl (lv_at hl 0 rfl) ?_
      refine gf_X2_25 E hW g32 dX2_contains_86 ?_
      refine r_lc_gt E dX2_contains_89 dX2_contains_90 (tgt := 97) (by decide) (fun g => ?_) (fun g => ?_)
      · have h := ifp h g
        refine lv_iconst (v := (0 : Int32)) E.1 E.2.1 dX2_contains_97 (by decide) ?_
        exact e_z E hW hr hlk (by decide) h dX2_contains_98
      · have h := ifn h g
        refine lv_iconst (v := (1 : Int32)) E.1 E.2.1 dX2_contains_93 (by decide) ?_
        refine lv_goto (tgt := 98) E.1 E.2.1 dX2_contains_94 (by decide) ?_
        exact e_z E hW hr hlk (by decide) h dX2_contains_98
set_option maxHeartbeats 4000000 in
set_option maxRecDepth 100000 in
theorem L_X2_sweepUpTo_5 {p : Program} {l : Launch} {e : Env} {s : State} {m : MethodId} {args : Array Value} {below : List Frame} {meth : Method} {c : Code} {G : GP} {A0 : Nat → Prop} {σ0 : St} {r0 : Int32} (E : En p m c s cX2_sweepUpTo 7 yX2_sweepUpTo.cls G A0) (hr : meth.sig.returnType = (some .int)) (hlk : meth.locks = false) : ∀ (n6 : Nat) (q2 : Nat) (x3 : Int64) (x4 : Int32) (x5 : Int32) (σ1 : St) (H : Heap) (locs : List Loc) (ls : Array Slot), f_X2_sweepUpTo_L5 n6 q2 x3 x4 x5 σ1 = some (r0, σ0) → Wo G skC A0 s σ1 H locs → lv_has ls 7 [(0, .ref (G.2.2.2 + q2)), (1, .long x3), (3, .int x4), (4, .int x5)] → W p l e ({ frames := 2, cells := 0, slots := 0, locals := 46 } : Room) s m args below meth c H locs 0 0 (MQ below (QO (PoC G skC σ0) A0 (some (.int r0))) args s 0 0 A0) (F0 m 5 ls []) := by
  intro n6
  induction n6 with
  | zero =>
    intro q2 x3 x4 x5 σ1 H locs ls h hW hl
    rw [f_X2_sweepUpTo_L5] at h
    cases h
  | succ n6 ih =>
    intro q2 x3 x4 x5 σ1 H locs ls h hW hl
    rw [f_X2_sweepUpTo_L5] at h
    refine lv_iload E.1 E.2.1 dX2_sweepUpTo_5 (lv_at hl 3 rfl) ?_
    refine lv_bipush (v := (10 : Int32)) E.1 E.2.1 dX2_sweepUpTo_7 (by decide) ?_
    refine lv_icmp_ge (tgt := 100) E.1 E.2.1 dX2_sweepUpTo_9 (by decide) (fun g => ?_) (fun g => ?_)
    · have h := ifp h g
      refine lv_iload_n E.1 E.2.1 dX2_sweepUpTo_100 rfl (lv_at hl 2 rfl) ?_
      exact e_i E hW hr hlk h dX2_sweepUpTo_101
    · have h := ifn h g
      refine lv_aload_n E.1 E.2.1 dX2_sweepUpTo_12 rfl (lv_at hl 0 rfl) ?_
      obtain ⟨g7, h⟩ := gd_r h
      refine gf_X2_9 E hW g7 dX2_sweepUpTo_13 ?_
      refine lv_iload E.1 E.2.1 dX2_sweepUpTo_16 (lv_at hl 3 rfl) ?_
      obtain ⟨g8, h⟩ := gd_r h
      refine r_lald E hW (pr_eq g8.1) g8.2 dX2_sweepUpTo_18 ?_
      refine lv_topl (fun x9 ex9 => ?_)
      have h := bnd_r ex9 h
      refine lv_lstore (lv' := [(5, .long x9), (0, .ref (G.2.2.2 + q2)), (1, .long x3), (3, .int x4), (4, .int x5)]) E.1 E.2.1 dX2_sweepUpTo_19 hl (by decide) rfl (fun ls hl => ?_)
      refine lv_iload E.1 E.2.1 dX2_sweepUpTo_21 (lv_at hl 4 rfl) ?_
      refine lv_if_eq (tgt := 94) E.1 E.2.1 dX2_sweepUpTo_23 (by decide) (fun g => ?_) (fun g => ?_)
      · have h := ifp h g
        obtain ⟨x10, ex10⟩ : ∃ y : Int32, y = x5 + (1 : Int32) := ⟨_, rfl⟩
        have h := bnd_r ex10 h
        refine lv_iinc (v := x10) (lv' := [(4, .int x10), (5, .long x9), (0, .ref (G.2.2.2 + q2)), (1, .long x3), (3, .int x4)]) E.1 E.2.1 dX2_sweepUpTo_94 hl (k := 4) rfl (by rw [ex10]; rfl) (by decide) rfl (fun ls hl => ?_)
        refine lv_goto (tgt := 5) E.1 E.2.1 dX2_sweepUpTo_97 (by decide) ?_
        exact ih _ _ _ _ _ _ _ _ h hW (lv_sub hl [2, 3, 4, 0] rfl)
      · have h := ifn h g
        refine lv_lload E.1 E.2.1 dX2_sweepUpTo_26 (lv_at hl 0 rfl) ?_
        refine lv_lconst (v := (0 : Int64)) E.1 E.2.1 dX2_sweepUpTo_28 (by decide) ?_
        refine r_lc_eq E dX2_sweepUpTo_29 dX2_sweepUpTo_30 (tgt := 94) (by decide) (fun g => ?_) (fun g => ?_)
        · have h := ifp h g
          obtain ⟨x11, ex11⟩ : ∃ y : Int32, y = x5 + (1 : Int32) := ⟨_, rfl⟩
          have h := bnd_r ex11 h
          refine lv_iinc (v := x11) (lv' := [(4, .int x11), (5, .long x9), (0, .ref (G.2.2.2 + q2)), (1, .long x3), (3, .int x4)]) E.1 E.2.1 dX2_sweepUpTo_94 hl (k := 4) rfl (by rw [ex11]; rfl) (by decide) rfl (fun ls hl => ?_)
          refine lv_goto (tgt := 5) E.1 E.2.1 dX2_sweepUpTo_97 (by decide) ?_
          exact ih _ _ _ _ _ _ _ _ h hW (lv_sub hl [2, 3, 4, 0] rfl)
        · have h := ifn h g
          refine lv_lload E.1 E.2.1 dX2_sweepUpTo_33 (lv_at hl 0 rfl) ?_
          refine r_absJ E (lv_size hl) ⟨kw_861, kw_477, kw_19, kw_478⟩ ⟨(Nat.le_of_ble_eq_true rfl), (Nat.le_of_ble_eq_true rfl)⟩ ⟨(Nat.le_of_ble_eq_true rfl), (Nat.le_of_ble_eq_true rfl)⟩ dX2_sweepUpTo_35 ?_
          refine lv_lload_n E.1 E.2.1 dX2_sweepUpTo_38 rfl (lv_at hl 2 rfl) ?_
          refine r_lc_gt E dX2_sweepUpTo_39 dX2_sweepUpTo_40 (tgt := 94) (by decide) (fun g => ?_) (fun g => ?_)
          · have h := ifp h g
            obtain ⟨x12, ex12⟩ : ∃ y : Int32, y = x5 + (1 : Int32) := ⟨_, rfl⟩
            have h := bnd_r ex12 h
            refine lv_iinc (v := x12) (lv' := [(4, .int x12), (5, .long x9), (0, .ref (G.2.2.2 + q2)), (1, .long x3), (3, .int x4)]) E.1 E.2.1 dX2_sweepUpTo_94 hl (k := 4) rfl (by rw [ex12]; rfl) (by decide) rfl (fun ls hl => ?_)
            refine lv_goto (tgt := 5) E.1 E.2.1 dX2_sweepUpTo_97 (by decide) ?_
            exact ih _ _ _ _ _ _ _ _ h hW (lv_sub hl [2, 3, 4, 0] rfl)
          · have h := ifn h g
            refine lv_aload_n E.1 E.2.1 dX2_sweepUpTo_43 rfl (lv_at hl 1 rfl) ?_
            refine lv_dup E.1 E.2.1 dX2_sweepUpTo_44 rfl ?_
            refine gf_X2_21 E hW g7 dX2_sweepUpTo_45 ?_
            refine lv_lload E.1 E.2.1 dX2_sweepUpTo_48 (lv_at hl 0 rfl) ?_
            refine r_getsN E hW 3 (by decide) rfl kw_506 dX2_sweepUpTo_50 (fun t13 Tt13 => ?_)
            refine lv_iload E.1 E.2.1 dX2_sweepUpTo_53 (lv_at hl 4 rfl) ?_
            obtain ⟨g14, h⟩ := gd_r h
            refine r_tald E hW 3 Tt13 g14 dX2_sweepUpTo_55 ?_
            obtain ⟨x16, σ15, c17, h⟩ := obn_r h
            refine c_SN (As := [.long x9, .int ((stL 3).getD x5.toNatClampNeg 0)]) (rest := [.long (σ1.2 q2 1), .ref (G.2.2.2 + q2)]) E hW (m_X6_rangeLow c17) kw_759 ws_X6_rangeLow yo_X6_rangeLow ⟨rfl, rfl⟩ ⟨(Nat.le_of_ble_eq_true rfl), (Nat.le_of_ble_eq_true rfl)⟩ (lv_size hl) (Nat.le_of_ble_eq_true rfl) ⟨(Nat.le_of_ble_eq_true rfl), (Nat.le_of_ble_eq_true rfl)⟩ rfl dX2_sweepUpTo_56 (fun H locs hW => ?_)
            refine W.eq (g2 := F0 m 59 ls [.long x16, .long (σ1.2 q2 1), .ref (G.2.2.2 + q2)]) rfl ?_
            refine lv_ladd E.1 E.2.1 dX2_sweepUpTo_59 ?_
            refine pf_X2_21 E hW g7 dX2_sweepUpTo_60 (fun σ18 H locs eσ18 hW => ?_)
            have h := bnd_r eσ18 h
            refine lv_aload_n E.1 E.2.1 dX2_sweepUpTo_63 rfl (lv_at hl 1 rfl) ?_
            refine lv_dup E.1 E.2.1 dX2_sweepUpTo_64 rfl ?_
            refine gf_X2_25 E hW g7 dX2_sweepUpTo_65 ?_
            refine lv_lload E.1 E.2.1 dX2_sweepUpTo_68 (lv_at hl 0 rfl) ?_
            refine r_getsN E hW 3 (by decide) rfl kw_506 dX2_sweepUpTo_70 (fun t19 Tt19 => ?_)
            refine lv_iload E.1 E.2.1 dX2_sweepUpTo_73 (lv_at hl 4 rfl) ?_
            refine r_tald E hW 3 Tt19 g14 dX2_sweepUpTo_75 ?_
            obtain ⟨x21, σ20, c22, h⟩ := obn_r h
            refine c_SN (As := [.long x9, .int ((stL 3).getD x5.toNatClampNeg 0)]) (rest := [.long (σ18.2 q2 2), .ref (G.2.2.2 + q2)]) E hW (m_X6_rangeHigh c22) kw_760 ws_X6_rangeHigh yo_X6_rangeHigh ⟨rfl, rfl⟩ ⟨(Nat.le_of_ble_eq_true rfl), (Nat.le_of_ble_eq_true rfl)⟩ (lv_size hl) (Nat.le_of_ble_eq_true rfl) ⟨(Nat.le_of_ble_eq_true rfl), (Nat.le_of_ble_eq_true rfl)⟩ rfl dX2_sweepUpTo_76 (fun H locs hW => ?_)
            refine W.eq (g2 := F0 m 79 ls [.long x21, .long (σ18.2 q2 2), .ref (G.2.2.2 + q2)]) rfl ?_
            refine lv_ladd E.1 E.2.1 dX2_sweepUpTo_79 ?_
            refine pf_X2_25 E hW g7 dX2_sweepUpTo_80 (fun σ23 H locs eσ23 hW => ?_)
            have h := bnd_r eσ23 h
            refine lv_aload_n E.1 E.2.1 dX2_sweepUpTo_83 rfl (lv_at hl 1 rfl) ?_
            refine gf_X2_9 E hW g7 dX2_sweepUpTo_84 ?_
            refine lv_iload E.1 E.2.1 dX2_sweepUpTo_87 (lv_at hl 4 rfl) ?_
            refine lv_lconst (v := (0 : Int64)) E.1 E.2.1 dX2_sweepUpTo_89 (by decide) ?_
            refine r_last E hW (pr_eq g8.1) g8.2 dX2_sweepUpTo_90 (fun σ24 H locs eσ24 hW => ?_)
            have h := bnd_r eσ24 h
            obtain ⟨x25, ex25⟩ : ∃ y : Int32, y = x4 + (1 : Int32) := ⟨_, rfl⟩
            have h := bnd_r ex25 h
            refine lv_iinc (v := x25) (lv' := [(3, .int x25), (5, .long x9), (0, .ref (G.2.2.2 + q2)), (1, .long x3), (4, .int x5)]) E.1 E.2.1 dX2_sweepUpTo_91 hl (k := 3) rfl (by rw [ex25]; rfl) (by decide) rfl (fun ls hl => ?_)
            obtain ⟨x26, ex26⟩ : ∃ y : Int32, y = x5 + (1 : Int32) := ⟨_, rfl⟩
            have h := bnd_r ex26 h
            refine lv_iinc (v := x26) (lv' := [(4, .int x26), (3, .int x25), (5, .long x9), (0, .ref (G.2.2.2 + q2)), (1, .long x3)]) E.1 E.2.1 dX2_sweepUpTo_94 hl (k := 4) rfl (by rw [ex26]; rfl) (by decide) rfl (fun ls hl => ?_)
            refine lv_goto (tgt := 5) E.1 E.2.1 dX2_sweepUpTo_97 (by decide) ?_
            exact ih _ _ _ _ _ _ _ _ h hW (lv_sub hl [3, 4, 1, 0] rfl)
set_option maxHeartbeats 4000000 in
set_option maxRecDepth 100000 in
theorem m_X2_sweepUpTo {l : Launch} {G : GP} {sz : Nat} {q0 : Nat} {a1 : Int64} {σ σ0 : St} {r0 : Int32} (h : f_X2_sweepUpTo q0 a1 σ = some (r0, σ0)) : Met l yX2_sweepUpTo [.code yX2_sweepUpTo cX2_sweepUpTo 7 (some .int)] ({ frames := 2, cells := 0, slots := 0, locals := 46 } : Room) (va_Pc [.ref (G.2.2.2 + q0), .long a1] (PreC G skC sz σ)) (QO (PoC G skC σ0) (Aw G.2.2.2 skC.1 sz) (some (.int r0))) 0 0 (Aw G.2.2.2 skC.1 sz) := by
  refine mkMet (by decide +kernel) (Nat.le_of_ble_eq_true rfl) skC_ok ?_
  intro p e s m below meth c ls E hW hl hr hlk
  have hl : lv_has ls 7 [(0, .ref (G.2.2.2 + q0)), (1, .long a1)] := hl
  generalize Aw G.2.2.2 skC.1 s.heap.size = A0 at E hW ⊢
  generalize ([.ref (G.2.2.2 + q0), .long a1] : List Value).toArray = args
  unfold f_X2_sweepUpTo at h
  refine lv_iconst (v := (0 : Int32)) E.1 E.2.1 dX2_sweepUpTo_0 (by decide) ?_
  refine lv_istore_n (lv' := [(3, .int (0 : Int32)), (0, .ref (G.2.2.2 + q0)), (1, .long a1)]) E.1 E.2.1 dX2_sweepUpTo_1 rfl hl (by decide) rfl (fun ls hl => ?_)
  refine lv_iconst (v := (0 : Int32)) E.1 E.2.1 dX2_sweepUpTo_2 (by decide) ?_
  refine lv_istore (lv' := [(4, .int (0 : Int32)), (3, .int (0 : Int32)), (0, .ref (G.2.2.2 + q0)), (1, .long a1)]) E.1 E.2.1 dX2_sweepUpTo_3 hl (by decide) rfl (fun ls hl => ?_)
  refine L_X2_sweepUpTo_5 E hr hlk _ _ _ _ _ _ _ _ _ h hW (lv_sub hl [2, 3, 1, 0] rfl)
set_option maxHeartbeats 4000000 in
set_option maxRecDepth 100000 in
theorem L_X2_addToChecksum_5 {p : Program} {l : Launch} {e : Env} {s : State} {m : MethodId} {args : Array Value} {below : List Frame} {meth : Method} {c : Code} {G : GP} {A0 : Nat → Prop} {σ0 : St} {r0 : Int64} {K32 : Nat → Int64 → St → Option (Int64 × St)} (E : En p m c s cX2_addToChecksum 6 yX2_addToChecksum.cls G A0) (hr : meth.sig.returnType = (some .long)) (hlk : meth.locks = false) (hK32 : ∀ (q6 : Nat) (x7 : Int64) (σ5 : St) (H : Heap) (locs : List Loc) (ls : Array Slot), K32 q6 x7 σ5 = some (r0, σ0) → Wo G skC A0 s σ5 H locs → lv_has ls 6 [(0, .ref (G.2.2.2 + q6)), (3, .long x7)] → W p l e ({ frames := 0, cells := 0, slots := 0, locals := 0 } : Room) s m args below meth c H locs 0 0 (MQ below (QO (PoC G skC σ0) A0 (some (.long r0))) args s 0 0 A0) (F0 m 32 ls [])) : ∀ (n8 : Nat) (q2 : Nat) (x3 : Int64) (x4 : Int32) (σ1 : St) (H : Heap) (locs : List Loc) (ls : Array Slot), f_X2_addToChecksum_L5 K32 n8 q2 x3 x4 σ1 = some (r0, σ0) → Wo G skC A0 s σ1 H locs → lv_has ls 6 [(0, .ref (G.2.2.2 + q2)), (3, .long x3), (5, .int x4)] → W p l e ({ frames := 0, cells := 0, slots := 0, locals := 0 } : Room) s m args below meth c H locs 0 0 (MQ below (QO (PoC G skC σ0) A0 (some (.long r0))) args s 0 0 A0) (F0 m 5 ls []) := by
  intro n8
  induction n8 with
  | zero =>
    intro q2 x3 x4 σ1 H locs ls h hW hl
    rw [f_X2_addToChecksum_L5] at h
    cases h
  | succ n8 ih =>
    intro q2 x3 x4 σ1 H locs ls h hW hl
    rw [f_X2_addToChecksum_L5] at h
    refine lv_iload E.1 E.2.1 dX2_addToChecksum_5 (lv_at hl 2 rfl) ?_
    refine lv_bipush (v := (10 : Int32)) E.1 E.2.1 dX2_addToChecksum_7 (by decide) ?_
    refine lv_icmp_ge (tgt := 32) E.1 E.2.1 dX2_addToChecksum_9 (by decide) (fun g => ?_) (fun g => ?_)
    · have h := ifp h g
      exact hK32 _ _ _ _ _ _ h hW (lv_sub hl [0, 1] rfl)
    · have h := ifn h g
      refine lv_ldc2 (v := (31 : Int64)) E.1 E.2.1 E.2.2.2.1 (E.wd kw_271) dX2_addToChecksum_12 ?_
      refine lv_lload_n E.1 E.2.1 dX2_addToChecksum_15 rfl (lv_at hl 1 rfl) ?_
      refine lv_lmul E.1 E.2.1 dX2_addToChecksum_16 ?_
      refine lv_aload_n E.1 E.2.1 dX2_addToChecksum_17 rfl (lv_at hl 0 rfl) ?_
      obtain ⟨g9, h⟩ := gd_r h
      refine gf_X2_9 E hW g9 dX2_addToChecksum_18 ?_
      refine lv_iload E.1 E.2.1 dX2_addToChecksum_21 (lv_at hl 2 rfl) ?_
      obtain ⟨g10, h⟩ := gd_r h
      refine r_lald E hW (pr_eq g10.1) g10.2 dX2_addToChecksum_23 ?_
      refine lv_ladd E.1 E.2.1 dX2_addToChecksum_24 ?_
      refine lv_topl (fun x11 ex11 => ?_)
      have h := bnd_r ex11 h
      refine lv_lstore_n (lv' := [(3, .long x11), (0, .ref (G.2.2.2 + q2)), (5, .int x4)]) E.1 E.2.1 dX2_addToChecksum_25 rfl hl (by decide) rfl (fun ls hl => ?_)
      obtain ⟨x12, ex12⟩ : ∃ y : Int32, y = x4 + (1 : Int32) := ⟨_, rfl⟩
      have h := bnd_r ex12 h
      refine lv_iinc (v := x12) (lv' := [(5, .int x12), (3, .long x11), (0, .ref (G.2.2.2 + q2))]) E.1 E.2.1 dX2_addToChecksum_26 hl (k := 2) rfl (by rw [ex12]; rfl) (by decide) rfl (fun ls hl => ?_)
      refine lv_goto (tgt := 5) E.1 E.2.1 dX2_addToChecksum_29 (by decide) ?_
      exact ih _ _ _ _ _ _ _ h hW (lv_sub hl [2, 1, 0] rfl)
set_option maxHeartbeats 4000000 in
set_option maxRecDepth 100000 in
theorem m_X2_addToChecksum {l : Launch} {G : GP} {sz : Nat} {q0 : Nat} {a1 : Int64} {σ σ0 : St} {r0 : Int64} (h : f_X2_addToChecksum q0 a1 σ = some (r0, σ0)) : Met l yX2_addToChecksum [.code yX2_addToChecksum cX2_addToChecksum 6 (some .long)] ({ frames := 0, cells := 0, slots := 0, locals := 0 } : Room) (va_Pc [.ref (G.2.2.2 + q0), .long a1] (PreC G skC sz σ)) (QO (PoC G skC σ0) (Aw G.2.2.2 skC.1 sz) (some (.long r0))) 0 0 (Aw G.2.2.2 skC.1 sz) := by
  refine mkMet (by decide +kernel) (Nat.le_of_ble_eq_true rfl) skC_ok ?_
  intro p e s m below meth c ls E hW hl hr hlk
  have hl : lv_has ls 6 [(0, .ref (G.2.2.2 + q0)), (1, .long a1)] := hl
  generalize Aw G.2.2.2 skC.1 s.heap.size = A0 at E hW ⊢
  generalize ([.ref (G.2.2.2 + q0), .long a1] : List Value).toArray = args
  unfold f_X2_addToChecksum at h
  refine lv_lload_n E.1 E.2.1 dX2_addToChecksum_0 rfl (lv_at hl 1 rfl) ?_
  refine lv_lstore_n (lv' := [(3, .long a1), (0, .ref (G.2.2.2 + q0)), (1, .long a1)]) E.1 E.2.1 dX2_addToChecksum_1 rfl hl (by decide) rfl (fun ls hl => ?_)
  refine lv_iconst (v := (0 : Int32)) E.1 E.2.1 dX2_addToChecksum_2 (by decide) ?_
  refine lv_istore (lv' := [(5, .int (0 : Int32)), (3, .long a1), (0, .ref (G.2.2.2 + q0)), (1, .long a1)]) E.1 E.2.1 dX2_addToChecksum_3 hl (by decide) rfl (fun ls hl => ?_)
  refine L_X2_addToChecksum_5 E hr hlk ?_ _ _ _ _ _ _ _ _ h hW (lv_sub hl [2, 1, 0] rfl)
  · intro q6 x7 σ5 H locs ls h hW hl
    refine lv_ldc2 (v := (31 : Int64)) E.1 E.2.1 E.2.2.2.1 (E.wd kw_271) dX2_addToChecksum_32 ?_
    refine lv_lload_n E.1 E.2.1 dX2_addToChecksum_35 rfl (lv_at hl 1 rfl) ?_
    refine lv_lmul E.1 E.2.1 dX2_addToChecksum_36 ?_
    refine lv_aload_n E.1 E.2.1 dX2_addToChecksum_37 rfl (lv_at hl 0 rfl) ?_
    obtain ⟨g13, h⟩ := gd_r h
    refine gf_X2_21 E hW g13 dX2_addToChecksum_38 ?_
    refine lv_ladd E.1 E.2.1 dX2_addToChecksum_41 ?_
    refine lv_topl (fun x14 ex14 => ?_)
    have h := bnd_r ex14 h
    refine lv_lstore_n (lv' := [(3, .long x14), (0, .ref (G.2.2.2 + q6))]) E.1 E.2.1 dX2_addToChecksum_42 rfl hl (by decide) rfl (fun ls hl => ?_)
    refine lv_ldc2 (v := (31 : Int64)) E.1 E.2.1 E.2.2.2.1 (E.wd kw_271) dX2_addToChecksum_43 ?_
    refine lv_lload_n E.1 E.2.1 dX2_addToChecksum_46 rfl (lv_at hl 0 rfl) ?_
    refine lv_lmul E.1 E.2.1 dX2_addToChecksum_47 ?_
    refine lv_aload_n E.1 E.2.1 dX2_addToChecksum_48 rfl (lv_at hl 1 rfl) ?_
    refine gf_X2_25 E hW g13 dX2_addToChecksum_49 ?_
    refine lv_ladd E.1 E.2.1 dX2_addToChecksum_52 ?_
    exact e_j E hW hr hlk h dX2_addToChecksum_53
set_option maxHeartbeats 4000000 in
set_option maxRecDepth 100000 in
theorem m_X3_has {l : Launch} {G : GP} {sz : Nat} {q0 : Nat} {a1 : Int32} {σ σ0 : St} {r0 : Int32} (h : f_X3_has q0 a1 σ = some (r0, σ0)) : Met l yX3_has [.code yX3_has cX3_has 2 (some .boolean)] ({ frames := 0, cells := 0, slots := 0, locals := 0 } : Room) (va_Pc [.ref (G.2.2.2 + q0), .int a1] (PreC G skC sz σ)) (QO (PoC G skC σ0) (Aw G.2.2.2 skC.1 sz) (some (.int r0))) 0 0 (Aw G.2.2.2 skC.1 sz) := by
  refine mkMet (by decide +kernel) (Nat.le_of_ble_eq_true rfl) skC_ok ?_
  intro p e s m below meth c ls E hW hl hr hlk
  have hl : lv_has ls 2 [(0, .ref (G.2.2.2 + q0)), (1, .int a1)] := hl
  generalize Aw G.2.2.2 skC.1 s.heap.size = A0 at E hW ⊢
  generalize ([.ref (G.2.2.2 + q0), .int a1] : List Value).toArray = args
  unfold f_X3_has at h
  refine lv_iload_n E.1 E.2.1 dX3_has_0 rfl (lv_at hl 1 rfl) ?_
  refine lv_if_lt (tgt := 26) E.1 E.2.1 dX3_has_1 (by decide) (fun g => ?_) (fun g => ?_)
  · have h := ifp h g
    refine lv_iconst (v := (0 : Int32)) E.1 E.2.1 dX3_has_26 (by decide) ?_
    exact e_z E hW hr hlk (by decide) h dX3_has_27
  · have h := ifn h g
    refine lv_iload_n E.1 E.2.1 dX3_has_4 rfl (lv_at hl 1 rfl) ?_
    refine lv_bipush (v := (8 : Int32)) E.1 E.2.1 dX3_has_5 (by decide) ?_
    refine lv_icmp_ge (tgt := 26) E.1 E.2.1 dX3_has_7 (by decide) (fun g => ?_) (fun g => ?_)
    · have h := ifp h g
      refine lv_iconst (v := (0 : Int32)) E.1 E.2.1 dX3_has_26 (by decide) ?_
      exact e_z E hW hr hlk (by decide) h dX3_has_27
    · have h := ifn h g
      refine lv_aload_n E.1 E.2.1 dX3_has_10 rfl (lv_at hl 0 rfl) ?_
      obtain ⟨g1, h⟩ := gd_r h
      refine gf_X3_18 E hW g1 dX3_has_11 ?_
      refine lv_iload_n E.1 E.2.1 dX3_has_14 rfl (lv_at hl 1 rfl) ?_
      refine lv_ishr E.1 E.2.1 dX3_has_15 ?_
      refine lv_iconst (v := (1 : Int32)) E.1 E.2.1 dX3_has_16 (by decide) ?_
      refine lv_iand E.1 E.2.1 dX3_has_17 ?_
      refine lv_iconst (v := (1 : Int32)) E.1 E.2.1 dX3_has_18 (by decide) ?_
      refine lv_icmp_ne (tgt := 26) E.1 E.2.1 dX3_has_19 (by decide) (fun g => ?_) (fun g => ?_)
      · have h := ifn h g
        refine lv_iconst (v := (0 : Int32)) E.1 E.2.1 dX3_has_26 (by decide) ?_
        exact e_z E hW hr hlk (by decide) h dX3_has_27
      · have h := ifp h g
        refine lv_iconst (v := (1 : Int32)) E.1 E.2.1 dX3_has_22 (by decide) ?_
        refine lv_goto (tgt := 27) E.1 E.2.1 dX3_has_23 (by decide) ?_
        exact e_z E hW hr hlk (by decide) h dX3_has_27
set_option maxHeartbeats 4000000 in
set_option maxRecDepth 100000 in
theorem m_X3_count {l : Launch} {G : GP} {sz : Nat} {q0 : Nat} {σ σ0 : St} {r0 : Int32} (h : f_X3_count q0 σ = some (r0, σ0)) : Met l yX3_count [.code yX3_count cX3_count 1 (some .int)] ({ frames := 1, cells := 0, slots := 0, locals := 20 } : Room) (va_Pc [.ref (G.2.2.2 + q0)] (PreC G skC sz σ)) (QO (PoC G skC σ0) (Aw G.2.2.2 skC.1 sz) (some (.int r0))) 0 0 (Aw G.2.2.2 skC.1 sz) := by
  refine mkMet (by decide +kernel) (Nat.le_of_ble_eq_true rfl) skC_ok ?_
  intro p e s m below meth c ls E hW hl hr hlk
  have hl : lv_has ls 1 [(0, .ref (G.2.2.2 + q0))] := hl
  generalize Aw G.2.2.2 skC.1 s.heap.size = A0 at E hW ⊢
  generalize ([.ref (G.2.2.2 + q0)] : List Value).toArray = args
  unfold f_X3_count at h
  refine lv_aload_n E.1 E.2.1 dX3_count_0 rfl (lv_at hl 0 rfl) ?_
  obtain ⟨g1, h⟩ := gd_r h
  refine gf_X3_18 E hW g1 dX3_count_1 ?_
  obtain ⟨x3, σ2, c4, h⟩ := obn_r h
  refine c_S (As := [.int (σ.1 q0 1)]) (rest := []) E hW (m_J6_bitCount_0f7a4 c4) kw_626 ws_J6_bitCount_0f7a4 yo_J6_bitCount_0f7a4 ⟨rfl, rfl⟩ ⟨(Nat.le_of_ble_eq_true rfl), (Nat.le_of_ble_eq_true rfl)⟩ (lv_size hl) (Nat.le_of_ble_eq_true rfl) ⟨(Nat.le_of_ble_eq_true rfl), (Nat.le_of_ble_eq_true rfl)⟩ rfl dX3_count_4 (fun H locs hW => ?_)
  refine W.eq (g2 := F0 m 7 ls [.int x3]) rfl ?_
  exact e_i E hW hr hlk h dX3_count_7
set_option maxHeartbeats 4000000 in
set_option maxRecDepth 100000 in
theorem m_X3_define {l : Launch} {G : GP} {sz : Nat} {q0 : Nat} {a1 : Int32} {q2 : Nat} {σ σ0 : St} {r0 : Unit} (h : f_X3_define q0 a1 q2 σ = some (r0, σ0)) : Met l yX3_define [.code yX3_define cX3_define 3 none] ({ frames := 2, cells := 0, slots := 0, locals := 81 } : Room) (va_Pc [.ref (G.2.2.2 + q0), .int a1, .ref (G.2.2.2 + q2)] (PreC G skC sz σ)) (QO (PoC G skC σ0) (Aw G.2.2.2 skC.1 sz) none) 0 0 (Aw G.2.2.2 skC.1 sz) := by
  refine mkMet (by decide +kernel) (Nat.le_of_ble_eq_true rfl) skC_ok ?_
  intro p e s m below meth c ls E hW hl hr hlk
  have hl : lv_has ls 3 [(0, .ref (G.2.2.2 + q0)), (1, .int a1), (2, .ref (G.2.2.2 + q2))] := hl
  generalize Aw G.2.2.2 skC.1 s.heap.size = A0 at E hW ⊢
  generalize ([.ref (G.2.2.2 + q0), .int a1, .ref (G.2.2.2 + q2)] : List Value).toArray = args
  unfold f_X3_define at h
  refine lv_iload_n E.1 E.2.1 dX3_define_0 rfl (lv_at hl 1 rfl) ?_
  refine lv_if_lt (tgt := 32) E.1 E.2.1 dX3_define_1 (by decide) (fun g => ?_) (fun g => ?_)
  · have h := ifp h g
    exact e_v E hW hr hlk h dX3_define_32
  · have h := ifn h g
    refine lv_iload_n E.1 E.2.1 dX3_define_4 rfl (lv_at hl 1 rfl) ?_
    refine lv_bipush (v := (8 : Int32)) E.1 E.2.1 dX3_define_5 (by decide) ?_
    refine lv_icmp_ge (tgt := 32) E.1 E.2.1 dX3_define_7 (by decide) (fun g => ?_) (fun g => ?_)
    · have h := ifp h g
      exact e_v E hW hr hlk h dX3_define_32
    · have h := ifn h g
      refine lv_aload_n E.1 E.2.1 dX3_define_10 rfl (lv_at hl 0 rfl) ?_
      obtain ⟨g1, h⟩ := gd_r h
      refine gf_X3_11 E hW g1 dX3_define_11 ?_
      refine lv_iload_n E.1 E.2.1 dX3_define_14 rfl (lv_at hl 1 rfl) ?_
      obtain ⟨g2, h⟩ := gd_r h
      refine r_aald (t := 0) (ty := .object "TaylorModels$Model") E hW (pr_eq g2.1) g2.2 rfl rfl (by decide) dX3_define_15 ?_
      refine lv_aload_n E.1 E.2.1 dX3_define_16 rfl (lv_at hl 2 rfl) ?_
      obtain ⟨g3, h⟩ := gd_r h
      obtain ⟨_r, σ4, c5, h⟩ := obn_r h
      refine c_V (As := [.ref (G.2.2.2 + q2)]) (rest := []) E hW (m_X2_copyFrom c5) g3 rfl kw_252 wv_X2_copyFrom yo_X2_copyFrom ⟨rfl, rfl⟩ ⟨(Nat.le_of_ble_eq_true rfl), (Nat.le_of_ble_eq_true rfl)⟩ (lv_size hl) (Nat.le_of_ble_eq_true rfl) ⟨(Nat.le_of_ble_eq_true rfl), (Nat.le_of_ble_eq_true rfl)⟩ rfl dX3_define_17 (fun H locs hW => ?_)
      refine W.eq (g2 := F0 m 20 ls []) rfl ?_
      refine lv_aload_n E.1 E.2.1 dX3_define_20 rfl (lv_at hl 0 rfl) ?_
      refine lv_dup E.1 E.2.1 dX3_define_21 rfl ?_
      refine gf_X3_18 E hW g1 dX3_define_22 ?_
      refine lv_iconst (v := (1 : Int32)) E.1 E.2.1 dX3_define_25 (by decide) ?_
      refine lv_iload_n E.1 E.2.1 dX3_define_26 rfl (lv_at hl 1 rfl) ?_
      refine lv_ishl E.1 E.2.1 dX3_define_27 ?_
      refine lv_ior E.1 E.2.1 dX3_define_28 ?_
      refine pf_X3_18 E hW g1 dX3_define_29 (fun σ6 H locs eσ6 hW => ?_)
      have h := bnd_r eσ6 h
      exact e_v E hW hr hlk h dX3_define_32
set_option maxHeartbeats 4000000 in
set_option maxRecDepth 100000 in
theorem m_X3_remove {l : Launch} {G : GP} {sz : Nat} {q0 : Nat} {a1 : Int32} {σ σ0 : St} {r0 : Unit} (h : f_X3_remove q0 a1 σ = some (r0, σ0)) : Met l yX3_remove [.code yX3_remove cX3_remove 2 none] ({ frames := 0, cells := 0, slots := 0, locals := 0 } : Room) (va_Pc [.ref (G.2.2.2 + q0), .int a1] (PreC G skC sz σ)) (QO (PoC G skC σ0) (Aw G.2.2.2 skC.1 sz) none) 0 0 (Aw G.2.2.2 skC.1 sz) := by
  refine mkMet (by decide +kernel) (Nat.le_of_ble_eq_true rfl) skC_ok ?_
  intro p e s m below meth c ls E hW hl hr hlk
  have hl : lv_has ls 2 [(0, .ref (G.2.2.2 + q0)), (1, .int a1)] := hl
  generalize Aw G.2.2.2 skC.1 s.heap.size = A0 at E hW ⊢
  generalize ([.ref (G.2.2.2 + q0), .int a1] : List Value).toArray = args
  unfold f_X3_remove at h
  refine lv_iload_n E.1 E.2.1 dX3_remove_0 rfl (lv_at hl 1 rfl) ?_
  refine lv_if_lt (tgt := 24) E.1 E.2.1 dX3_remove_1 (by decide) (fun g => ?_) (fun g => ?_)
  · have h := ifp h g
    exact e_v E hW hr hlk h dX3_remove_24
  · have h := ifn h g
    refine lv_iload_n E.1 E.2.1 dX3_remove_4 rfl (lv_at hl 1 rfl) ?_
    refine lv_bipush (v := (8 : Int32)) E.1 E.2.1 dX3_remove_5 (by decide) ?_
    refine lv_icmp_ge (tgt := 24) E.1 E.2.1 dX3_remove_7 (by decide) (fun g => ?_) (fun g => ?_)
    · have h := ifp h g
      exact e_v E hW hr hlk h dX3_remove_24
    · have h := ifn h g
      refine lv_aload_n E.1 E.2.1 dX3_remove_10 rfl (lv_at hl 0 rfl) ?_
      refine lv_dup E.1 E.2.1 dX3_remove_11 rfl ?_
      obtain ⟨g1, h⟩ := gd_r h
      refine gf_X3_18 E hW g1 dX3_remove_12 ?_
      refine lv_iconst (v := (1 : Int32)) E.1 E.2.1 dX3_remove_15 (by decide) ?_
      refine lv_iload_n E.1 E.2.1 dX3_remove_16 rfl (lv_at hl 1 rfl) ?_
      refine lv_ishl E.1 E.2.1 dX3_remove_17 ?_
      refine lv_iconst (v := (-1 : Int32)) E.1 E.2.1 dX3_remove_18 (by decide) ?_
      refine lv_ixor E.1 E.2.1 dX3_remove_19 ?_
      refine lv_iand E.1 E.2.1 dX3_remove_20 ?_
      refine pf_X3_18 E hW g1 dX3_remove_21 (fun σ2 H locs eσ2 hW => ?_)
      have h := bnd_r eσ2 h
      exact e_v E hW hr hlk h dX3_remove_24
set_option maxHeartbeats 4000000 in
set_option maxRecDepth 100000 in
theorem m_X5_kindOf {l : Launch} {G : GP} {sz : Nat} {a0 : Int32} {σ σ0 : St} {r0 : Int32} (h : f_X5_kindOf a0 σ = some (r0, σ0)) : Met l yX5_kindOf [.code yX5_kindOf cX5_kindOf 1 (some .int)] ({ frames := 0, cells := 0, slots := 0, locals := 0 } : Room) (va_Pc [.int a0] (PreC G skC sz σ)) (QO (PoC G skC σ0) (Aw G.2.2.2 skC.1 sz) (some (.int r0))) 0 0 (Aw G.2.2.2 skC.1 sz) := by
  refine mkMet (by decide +kernel) (Nat.le_of_ble_eq_true rfl) skC_ok ?_
  intro p e s m below meth c ls E hW hl hr hlk
  have hl : lv_has ls 1 [(0, .int a0)] := hl
  generalize Aw G.2.2.2 skC.1 s.heap.size = A0 at E hW ⊢
  generalize ([.int a0] : List Value).toArray = args
  unfold f_X5_kindOf at h
  refine lv_iload_n E.1 E.2.1 dX5_kindOf_0 rfl (lv_at hl 0 rfl) ?_
  refine lv_bipush (v := (32 : Int32)) E.1 E.2.1 dX5_kindOf_1 (by decide) ?_
  refine lv_icmp_ne (tgt := 8) E.1 E.2.1 dX5_kindOf_3 (by decide) (fun g => ?_) (fun g => ?_)
  · have h := ifn h g
    refine lv_iload_n E.1 E.2.1 dX5_kindOf_8 rfl (lv_at hl 0 rfl) ?_
    refine lv_bipush (v := (48 : Int32)) E.1 E.2.1 dX5_kindOf_9 (by decide) ?_
    obtain ⟨J3, eJ3, h⟩ := bnd_x h
    have hJ3 : ∀ (x2 : Int32) (σ1 : St) (H : Heap) (locs : List Loc) (ls : Array Slot), J3 x2 σ1 = some (r0, σ0) → Wo G skC A0 s σ1 H locs → lv_has ls 1 [(0, .int x2)] → W p l e ({ frames := 0, cells := 0, slots := 0, locals := 0 } : Room) s m args below meth c H locs 0 0 (MQ below (QO (PoC G skC σ0) A0 (some (.int r0))) args s 0 0 A0) (F0 m 22 ls []) := by
      intro x2 σ1 H locs ls h hW hl
      have h := jr2 eJ3 h
      refine lv_iload_n E.1 E.2.1 dX5_kindOf_22 rfl (lv_at hl 0 rfl) ?_
      refine lv_bipush (v := (97 : Int32)) E.1 E.2.1 dX5_kindOf_23 (by decide) ?_
      refine lv_icmp_lt (tgt := 38) E.1 E.2.1 dX5_kindOf_25 (by decide) (fun g => ?_) (fun g => ?_)
      · have h := ifp h g
        refine lv_iconst (v := (3 : Int32)) E.1 E.2.1 dX5_kindOf_38 (by decide) ?_
        exact e_i E hW hr hlk h dX5_kindOf_39
      · have h := ifn h g
        refine lv_iload_n E.1 E.2.1 dX5_kindOf_28 rfl (lv_at hl 0 rfl) ?_
        refine lv_bipush (v := (122 : Int32)) E.1 E.2.1 dX5_kindOf_29 (by decide) ?_
        refine lv_icmp_gt (tgt := 38) E.1 E.2.1 dX5_kindOf_31 (by decide) (fun g => ?_) (fun g => ?_)
        · have h := ifp h g
          refine lv_iconst (v := (3 : Int32)) E.1 E.2.1 dX5_kindOf_38 (by decide) ?_
          exact e_i E hW hr hlk h dX5_kindOf_39
        · have h := ifn h g
          refine lv_iconst (v := (2 : Int32)) E.1 E.2.1 dX5_kindOf_34 (by decide) ?_
          refine lv_goto (tgt := 39) E.1 E.2.1 dX5_kindOf_35 (by decide) ?_
          exact e_i E hW hr hlk h dX5_kindOf_39
    refine lv_icmp_lt (tgt := 22) E.1 E.2.1 dX5_kindOf_11 (by decide) (fun g => ?_) (fun g => ?_)
    · have h := ifp h g
      exact hJ3 _ _ _ _ _ h hW (lv_sub hl [0] rfl)
    · have h := ifn h g
      refine lv_iload_n E.1 E.2.1 dX5_kindOf_14 rfl (lv_at hl 0 rfl) ?_
      refine lv_bipush (v := (57 : Int32)) E.1 E.2.1 dX5_kindOf_15 (by decide) ?_
      refine lv_icmp_gt (tgt := 22) E.1 E.2.1 dX5_kindOf_17 (by decide) (fun g => ?_) (fun g => ?_)
      · have h := ifp h g
        exact hJ3 _ _ _ _ _ h hW (lv_sub hl [0] rfl)
      · have h := ifn h g
        refine lv_iconst (v := (1 : Int32)) E.1 E.2.1 dX5_kindOf_20 (by decide) ?_
        exact e_i E hW hr hlk h dX5_kindOf_21
  · have h := ifp h g
    refine lv_iconst (v := (0 : Int32)) E.1 E.2.1 dX5_kindOf_6 (by decide) ?_
    exact e_i E hW hr hlk h dX5_kindOf_7
set_option maxHeartbeats 4000000 in
set_option maxRecDepth 100000 in
theorem m_X5_advance {l : Launch} {G : GP} {sz : Nat} {q0 : Nat} {σ σ0 : St} {r0 : Unit} (h : f_X5_advance q0 σ = some (r0, σ0)) : Met l yX5_advance [.code yX5_advance cX5_advance 1 none] ({ frames := 0, cells := 0, slots := 0, locals := 0 } : Room) (va_Pc [.ref (G.2.2.2 + q0)] (PreC G skC sz σ)) (QO (PoC G skC σ0) (Aw G.2.2.2 skC.1 sz) none) 0 0 (Aw G.2.2.2 skC.1 sz) := by
  refine mkMet (by decide +kernel) (Nat.le_of_ble_eq_true rfl) skC_ok ?_
  intro p e s m below meth c ls E hW hl hr hlk
  have hl : lv_has ls 1 [(0, .ref (G.2.2.2 + q0))] := hl
  generalize Aw G.2.2.2 skC.1 s.heap.size = A0 at E hW ⊢
  generalize ([.ref (G.2.2.2 + q0)] : List Value).toArray = args
  unfold f_X5_advance at h
  refine lv_aload_n E.1 E.2.1 dX5_advance_0 rfl (lv_at hl 0 rfl) ?_
  obtain ⟨g1, h⟩ := gd_r h
  refine gf_X5_32 E hW g1 dX5_advance_1 ?_
  refine lv_aload_n E.1 E.2.1 dX5_advance_4 rfl (lv_at hl 0 rfl) ?_
  refine gf_X5_29 E hW g1 dX5_advance_5 ?_
  obtain ⟨J4, eJ4, h⟩ := bnd_x h
  have hJ4 : ∀ (q3 : Nat) (σ2 : St) (H : Heap) (locs : List Loc) (ls : Array Slot), J4 q3 σ2 = some (r0, σ0) → Wo G skC A0 s σ2 H locs → lv_has ls 1 [(0, .ref (G.2.2.2 + q3))] → W p l e ({ frames := 0, cells := 0, slots := 0, locals := 0 } : Room) s m args below meth c H locs 0 0 (MQ below (QO (PoC G skC σ0) A0 none) args s 0 0 A0) (F0 m 21 ls []) := by
    intro q3 σ2 H locs ls h hW hl
    have h := jr2 eJ4 h
    refine lv_aload_n E.1 E.2.1 dX5_advance_21 rfl (lv_at hl 0 rfl) ?_
    obtain ⟨g5, h⟩ := gd_r h
    refine gf_X5_32 E hW g5 dX5_advance_22 ?_
    obtain ⟨J8, eJ8, h⟩ := bnd_x h
    have hJ8 : ∀ (q7 : Nat) (σ6 : St) (H : Heap) (locs : List Loc) (ls : Array Slot), J8 q7 σ6 = some (r0, σ0) → Wo G skC A0 s σ6 H locs → lv_has ls 1 [(0, .ref (G.2.2.2 + q7))] → W p l e ({ frames := 0, cells := 0, slots := 0, locals := 0 } : Room) s m args below meth c H locs 0 0 (MQ below (QO (PoC G skC σ0) A0 none) args s 0 0 A0) (F0 m 64 ls []) := by
      intro q7 σ6 H locs ls h hW hl
      have h := jr2 eJ8 h
      refine lv_aload_n E.1 E.2.1 dX5_advance_64 rfl (lv_at hl 0 rfl) ?_
      refine lv_aload_n E.1 E.2.1 dX5_advance_65 rfl (lv_at hl 0 rfl) ?_
      obtain ⟨g9, h⟩ := gd_r h
      refine gf_X5_32 E hW g9 dX5_advance_66 ?_
      refine lv_aload_n E.1 E.2.1 dX5_advance_69 rfl (lv_at hl 0 rfl) ?_
      refine gf_X5_29 E hW g9 dX5_advance_70 ?_
      refine lv_icmp_ge (tgt := 105) E.1 E.2.1 dX5_advance_73 (by decide) (fun g => ?_) (fun g => ?_)
      · have h := ifp h g
        refine lv_iconst (v := (-1 : Int32)) E.1 E.2.1 dX5_advance_105 (by decide) ?_
        refine pf_X5_44 E hW g9 dX5_advance_106 (fun σ10 H locs eσ10 hW => ?_)
        have h := bnd_r eσ10 h
        exact e_v E hW hr hlk h dX5_advance_109
      · have h := ifn h g
        refine lv_aload_n E.1 E.2.1 dX5_advance_76 rfl (lv_at hl 0 rfl) ?_
        refine gf_X5_38 E hW g9 dX5_advance_77 ?_
        refine lv_if_lt (tgt := 105) E.1 E.2.1 dX5_advance_80 (by decide) (fun g => ?_) (fun g => ?_)
        · have h := ifp h g
          refine lv_iconst (v := (-1 : Int32)) E.1 E.2.1 dX5_advance_105 (by decide) ?_
          refine pf_X5_44 E hW g9 dX5_advance_106 (fun σ11 H locs eσ11 hW => ?_)
          have h := bnd_r eσ11 h
          exact e_v E hW hr hlk h dX5_advance_109
        · have h := ifn h g
          refine lv_aload_n E.1 E.2.1 dX5_advance_83 rfl (lv_at hl 0 rfl) ?_
          refine gf_X5_38 E hW g9 dX5_advance_84 ?_
          refine lv_sipush (v := (700 : Int32)) E.1 E.2.1 dX5_advance_87 (by decide) ?_
          refine lv_icmp_ge (tgt := 105) E.1 E.2.1 dX5_advance_90 (by decide) (fun g => ?_) (fun g => ?_)
          · have h := ifp h g
            refine lv_iconst (v := (-1 : Int32)) E.1 E.2.1 dX5_advance_105 (by decide) ?_
            refine pf_X5_44 E hW g9 dX5_advance_106 (fun σ12 H locs eσ12 hW => ?_)
            have h := bnd_r eσ12 h
            exact e_v E hW hr hlk h dX5_advance_109
          · have h := ifn h g
            refine lv_aload_n E.1 E.2.1 dX5_advance_93 rfl (lv_at hl 0 rfl) ?_
            refine gf_X5_9 E hW g9 dX5_advance_94 ?_
            refine lv_aload_n E.1 E.2.1 dX5_advance_97 rfl (lv_at hl 0 rfl) ?_
            refine gf_X5_38 E hW g9 dX5_advance_98 ?_
            obtain ⟨g13, h⟩ := gd_r h
            refine r_iald E hW (pr_eq g13.1) g13.2 dX5_advance_101 ?_
            refine lv_goto (tgt := 106) E.1 E.2.1 dX5_advance_102 (by decide) ?_
            refine pf_X5_44 E hW g9 dX5_advance_106 (fun σ14 H locs eσ14 hW => ?_)
            have h := bnd_r eσ14 h
            exact e_v E hW hr hlk h dX5_advance_109
    refine lv_if_lt (tgt := 64) E.1 E.2.1 dX5_advance_25 (by decide) (fun g => ?_) (fun g => ?_)
    · have h := ifp h g
      exact hJ8 _ _ _ _ _ h hW (lv_sub hl [0] rfl)
    · have h := ifn h g
      refine lv_aload_n E.1 E.2.1 dX5_advance_28 rfl (lv_at hl 0 rfl) ?_
      refine gf_X5_32 E hW g5 dX5_advance_29 ?_
      refine lv_sipush (v := (700 : Int32)) E.1 E.2.1 dX5_advance_32 (by decide) ?_
      refine lv_icmp_gt (tgt := 64) E.1 E.2.1 dX5_advance_35 (by decide) (fun g => ?_) (fun g => ?_)
      · have h := ifp h g
        exact hJ8 _ _ _ _ _ h hW (lv_sub hl [0] rfl)
      · have h := ifn h g
        refine lv_aload_n E.1 E.2.1 dX5_advance_38 rfl (lv_at hl 0 rfl) ?_
        refine lv_aload_n E.1 E.2.1 dX5_advance_39 rfl (lv_at hl 0 rfl) ?_
        refine gf_X5_15 E hW g5 dX5_advance_40 ?_
        refine lv_aload_n E.1 E.2.1 dX5_advance_43 rfl (lv_at hl 0 rfl) ?_
        refine gf_X5_32 E hW g5 dX5_advance_44 ?_
        obtain ⟨g15, h⟩ := gd_r h
        refine r_iald E hW (pr_eq g15.1) g15.2 dX5_advance_47 ?_
        refine pf_X5_38 E hW g5 dX5_advance_48 (fun σ16 H locs eσ16 hW => ?_)
        have h := bnd_r eσ16 h
        refine lv_aload_n E.1 E.2.1 dX5_advance_51 rfl (lv_at hl 0 rfl) ?_
        refine lv_aload_n E.1 E.2.1 dX5_advance_52 rfl (lv_at hl 0 rfl) ?_
        refine gf_X5_18 E hW g5 dX5_advance_53 ?_
        refine lv_aload_n E.1 E.2.1 dX5_advance_56 rfl (lv_at hl 0 rfl) ?_
        refine gf_X5_32 E hW g5 dX5_advance_57 ?_
        obtain ⟨g17, h⟩ := gd_r h
        refine r_iald E hW (pr_eq g17.1) g17.2 dX5_advance_60 ?_
        refine pf_X5_41 E hW g5 dX5_advance_61 (fun σ18 H locs eσ18 hW => ?_)
        have h := bnd_r eσ18 h
        exact hJ8 _ _ _ _ _ h hW (lv_sub hl [0] rfl)
  refine lv_icmp_ge (tgt := 21) E.1 E.2.1 dX5_advance_8 (by decide) (fun g => ?_) (fun g => ?_)
  · have h := ifp h g
    exact hJ4 _ _ _ _ _ h hW (lv_sub hl [0] rfl)
  · have h := ifn h g
    refine lv_aload_n E.1 E.2.1 dX5_advance_11 rfl (lv_at hl 0 rfl) ?_
    refine lv_dup E.1 E.2.1 dX5_advance_12 rfl ?_
    refine gf_X5_32 E hW g1 dX5_advance_13 ?_
    refine lv_iconst (v := (1 : Int32)) E.1 E.2.1 dX5_advance_16 (by decide) ?_
    refine lv_iadd E.1 E.2.1 dX5_advance_17 ?_
    refine pf_X5_32 E hW g1 dX5_advance_18 (fun σ19 H locs eσ19 hW => ?_)
    have h := bnd_r eσ19 h
    exact hJ4 _ _ _ _ _ h hW (lv_sub hl [0] rfl)
set_option maxHeartbeats 4000000 in
set_option maxRecDepth 100000 in
theorem L_X5_split_7 {p : Program} {l : Launch} {e : Env} {s : State} {m : MethodId} {args : Array Value} {below : List Frame} {meth : Method} {c : Code} {G : GP} {A0 : Nat → Prop} {σ0 : St} {r0 : Unit} {K112 : Nat → Int32 → Int32 → St → Option (Unit × St)} (E : En p m c s cX5_split 6 yX5_split.cls G A0) (hr : meth.sig.returnType = none) (hlk : meth.locks = false) (hK112 : ∀ (q8 : Nat) (x9 : Int32) (x10 : Int32) (σ7 : St) (H : Heap) (locs : List Loc) (ls : Array Slot), K112 q8 x9 x10 σ7 = some (r0, σ0) → Wo G skC A0 s σ7 H locs → lv_has ls 6 [(0, .ref (G.2.2.2 + q8)), (1, .int x9), (2, .int x10)] → W p l e ({ frames := 1, cells := 0, slots := 0, locals := 20 } : Room) s m args below meth c H locs 0 0 (MQ below (QO (PoC G skC σ0) A0 none) args s 0 0 A0) (F0 m 112 ls [])) : ∀ (n11 : Nat) (q2 : Nat) (x3 : Int32) (x4 : Int32) (x5 : Int32) (x6 : Int32) (σ1 : St) (H : Heap) (locs : List Loc) (ls : Array Slot), f_X5_split_L7 K112 n11 q2 x3 x4 x5 x6 σ1 = some (r0, σ0) → Wo G skC A0 s σ1 H locs → lv_has ls 6 [(0, .ref (G.2.2.2 + q2)), (1, .int x3), (2, .int x4), (3, .int x5), (4, .int x6)] → W p l e ({ frames := 1, cells := 0, slots := 0, locals := 20 } : Room) s m args below meth c H locs 0 0 (MQ below (QO (PoC G skC σ0) A0 none) args s 0 0 A0) (F0 m 7 ls []) := by
  intro n11
  induction n11 with
  | zero =>
    intro q2 x3 x4 x5 x6 σ1 H locs ls h hW hl
    rw [f_X5_split_L7] at h
    cases h
  | succ n11 ih =>
    intro q2 x3 x4 x5 x6 σ1 H locs ls h hW hl
    rw [f_X5_split_L7] at h
    refine lv_iload E.1 E.2.1 dX5_split_7 (lv_at hl 4 rfl) ?_
    refine lv_iload_n E.1 E.2.1 dX5_split_9 rfl (lv_at hl 1 rfl) ?_
    refine lv_icmp_ge (tgt := 112) E.1 E.2.1 dX5_split_10 (by decide) (fun g => ?_) (fun g => ?_)
    · have h := ifp h g
      exact hK112 _ _ _ _ _ _ _ h hW (lv_sub hl [0, 1, 2] rfl)
    · have h := ifn h g
      refine lv_iload E.1 E.2.1 dX5_split_13 (lv_at hl 4 rfl) ?_
      refine lv_sipush (v := (700 : Int32)) E.1 E.2.1 dX5_split_15 (by decide) ?_
      refine lv_icmp_ge (tgt := 112) E.1 E.2.1 dX5_split_18 (by decide) (fun g => ?_) (fun g => ?_)
      · have h := ifp h g
        exact hK112 _ _ _ _ _ _ _ h hW (lv_sub hl [0, 1, 2] rfl)
      · have h := ifn h g
        refine lv_aload_n E.1 E.2.1 dX5_split_21 rfl (lv_at hl 0 rfl) ?_
        obtain ⟨g12, h⟩ := gd_r h
        refine gf_X5_9 E hW g12 dX5_split_22 ?_
        refine lv_iload E.1 E.2.1 dX5_split_25 (lv_at hl 4 rfl) ?_
        obtain ⟨g13, h⟩ := gd_r h
        refine r_iald E hW (pr_eq g13.1) g13.2 dX5_split_27 ?_
        obtain ⟨x15, σ14, c16, h⟩ := obn_r h
        refine c_S (As := [.int (σ1.1 (rC q2 0) x6.toNatClampNeg)]) (rest := []) E hW (m_X5_kindOf c16) kw_357 ws_X5_kindOf yo_X5_kindOf ⟨rfl, rfl⟩ ⟨(Nat.le_of_ble_eq_true rfl), (Nat.le_of_ble_eq_true rfl)⟩ (lv_size hl) (Nat.le_of_ble_eq_true rfl) ⟨(Nat.le_of_ble_eq_true rfl), (Nat.le_of_ble_eq_true rfl)⟩ rfl dX5_split_28 (fun H locs hW => ?_)
        refine W.eq (g2 := F0 m 31 ls [.int x15]) rfl ?_
        refine lv_istore (lv' := [(5, .int x15), (0, .ref (G.2.2.2 + q2)), (1, .int x3), (2, .int x4), (3, .int x5), (4, .int x6)]) E.1 E.2.1 dX5_split_31 hl (by decide) rfl (fun ls hl => ?_)
        refine lv_iload_n E.1 E.2.1 dX5_split_33 rfl (lv_at hl 3 rfl) ?_
        obtain ⟨J23, eJ23, h⟩ := bnd_x h
        have hJ23 : ∀ (q18 : Nat) (x19 : Int32) (x20 : Int32) (x21 : Int32) (x22 : Int32) (σ17 : St) (H : Heap) (locs : List Loc) (ls : Array Slot), J23 q18 x19 x20 x21 x22 σ17 = some (r0, σ0) → Wo G skC A0 s σ17 H locs → lv_has ls 6 [(0, .ref (G.2.2.2 + q18)), (1, .int x19), (2, .int x20), (4, .int x21), (5, .int x22)] → W p l e ({ frames := 1, cells := 0, slots := 0, locals := 20 } : Room) s m args below meth c H locs 0 0 (MQ below (QO (PoC G skC σ0) A0 none) args s 0 0 A0) (F0 m 70 ls []) := by
          intro q18 x19 x20 x21 x22 σ17 H locs ls h hW hl
          have h := jr6 eJ23 h
          refine lv_iload E.1 E.2.1 dX5_split_70 (lv_at hl 4 rfl) ?_
          refine lv_if_eq (tgt := 103) E.1 E.2.1 dX5_split_72 (by decide) (fun g => ?_) (fun g => ?_)
          · have h := ifp h g
            refine lv_iload E.1 E.2.1 dX5_split_103 (lv_at hl 4 rfl) ?_
            refine lv_istore_n (lv' := [(3, .int x22), (0, .ref (G.2.2.2 + q18)), (1, .int x19), (2, .int x20), (4, .int x21), (5, .int x22)]) E.1 E.2.1 dX5_split_105 rfl hl (by decide) rfl (fun ls hl => ?_)
            obtain ⟨x24, ex24⟩ : ∃ y : Int32, y = x21 + (1 : Int32) := ⟨_, rfl⟩
            have h := bnd_r ex24 h
            refine lv_iinc (v := x24) (lv' := [(4, .int x24), (3, .int x22), (0, .ref (G.2.2.2 + q18)), (1, .int x19), (2, .int x20), (5, .int x22)]) E.1 E.2.1 dX5_split_106 hl (k := 4) rfl (by rw [ex24]; rfl) (by decide) rfl (fun ls hl => ?_)
            refine lv_goto (tgt := 7) E.1 E.2.1 dX5_split_109 (by decide) ?_
            exact ih _ _ _ _ _ _ _ _ _ h hW (lv_sub hl [2, 3, 4, 1, 0] rfl)
          · have h := ifn h g
            refine lv_iload_n E.1 E.2.1 dX5_split_75 rfl (lv_at hl 2 rfl) ?_
            refine lv_sipush (v := (700 : Int32)) E.1 E.2.1 dX5_split_76 (by decide) ?_
            refine lv_icmp_ge (tgt := 103) E.1 E.2.1 dX5_split_79 (by decide) (fun g => ?_) (fun g => ?_)
            · have h := ifp h g
              refine lv_iload E.1 E.2.1 dX5_split_103 (lv_at hl 4 rfl) ?_
              refine lv_istore_n (lv' := [(3, .int x22), (0, .ref (G.2.2.2 + q18)), (1, .int x19), (2, .int x20), (4, .int x21), (5, .int x22)]) E.1 E.2.1 dX5_split_105 rfl hl (by decide) rfl (fun ls hl => ?_)
              obtain ⟨x25, ex25⟩ : ∃ y : Int32, y = x21 + (1 : Int32) := ⟨_, rfl⟩
              have h := bnd_r ex25 h
              refine lv_iinc (v := x25) (lv' := [(4, .int x25), (3, .int x22), (0, .ref (G.2.2.2 + q18)), (1, .int x19), (2, .int x20), (5, .int x22)]) E.1 E.2.1 dX5_split_106 hl (k := 4) rfl (by rw [ex25]; rfl) (by decide) rfl (fun ls hl => ?_)
              refine lv_goto (tgt := 7) E.1 E.2.1 dX5_split_109 (by decide) ?_
              exact ih _ _ _ _ _ _ _ _ _ h hW (lv_sub hl [2, 3, 4, 1, 0] rfl)
            · have h := ifn h g
              refine lv_aload_n E.1 E.2.1 dX5_split_82 rfl (lv_at hl 0 rfl) ?_
              obtain ⟨g26, h⟩ := gd_r h
              refine gf_X5_15 E hW g26 dX5_split_83 ?_
              refine lv_iload_n E.1 E.2.1 dX5_split_86 rfl (lv_at hl 2 rfl) ?_
              refine lv_iload E.1 E.2.1 dX5_split_87 (lv_at hl 3 rfl) ?_
              obtain ⟨g27, h⟩ := gd_r h
              refine r_iast E hW (pr_eq g27.1) g27.2 dX5_split_89 (fun σ28 H locs eσ28 hW => ?_)
              have h := bnd_r eσ28 h
              refine lv_aload_n E.1 E.2.1 dX5_split_90 rfl (lv_at hl 0 rfl) ?_
              refine gf_X5_18 E hW g26 dX5_split_91 ?_
              refine lv_iload_n E.1 E.2.1 dX5_split_94 rfl (lv_at hl 2 rfl) ?_
              refine lv_iload E.1 E.2.1 dX5_split_95 (lv_at hl 3 rfl) ?_
              refine lv_iconst (v := (1 : Int32)) E.1 E.2.1 dX5_split_97 (by decide) ?_
              refine lv_iadd E.1 E.2.1 dX5_split_98 ?_
              obtain ⟨g29, h⟩ := gd_r h
              refine r_iast E hW (pr_eq g29.1) g29.2 dX5_split_99 (fun σ30 H locs eσ30 hW => ?_)
              have h := bnd_r eσ30 h
              obtain ⟨x31, ex31⟩ : ∃ y : Int32, y = x20 + (1 : Int32) := ⟨_, rfl⟩
              have h := bnd_r ex31 h
              refine lv_iinc (v := x31) (lv' := [(2, .int x31), (0, .ref (G.2.2.2 + q18)), (1, .int x19), (4, .int x21), (5, .int x22)]) E.1 E.2.1 dX5_split_100 hl (k := 2) rfl (by rw [ex31]; rfl) (by decide) rfl (fun ls hl => ?_)
              refine lv_iload E.1 E.2.1 dX5_split_103 (lv_at hl 4 rfl) ?_
              refine lv_istore_n (lv' := [(3, .int x22), (2, .int x31), (0, .ref (G.2.2.2 + q18)), (1, .int x19), (4, .int x21), (5, .int x22)]) E.1 E.2.1 dX5_split_105 rfl hl (by decide) rfl (fun ls hl => ?_)
              obtain ⟨x32, ex32⟩ : ∃ y : Int32, y = x21 + (1 : Int32) := ⟨_, rfl⟩
              have h := bnd_r ex32 h
              refine lv_iinc (v := x32) (lv' := [(4, .int x32), (3, .int x22), (2, .int x31), (0, .ref (G.2.2.2 + q18)), (1, .int x19), (5, .int x22)]) E.1 E.2.1 dX5_split_106 hl (k := 4) rfl (by rw [ex32]; rfl) (by decide) rfl (fun ls hl => ?_)
              refine lv_goto (tgt := 7) E.1 E.2.1 dX5_split_109 (by decide) ?_
              exact ih _ _ _ _ _ _ _ _ _ h hW (lv_sub hl [3, 4, 2, 1, 0] rfl)
        refine lv_if_le (tgt := 70) E.1 E.2.1 dX5_split_34 (by decide) (fun g => ?_) (fun g => ?_)
        · have h := ifp h g
          exact hJ23 _ _ _ _ _ _ _ _ _ h hW (lv_sub hl [1, 2, 3, 5, 0] rfl)
        · have h := ifn h g
          refine lv_iload E.1 E.2.1 dX5_split_37 (lv_at hl 0 rfl) ?_
          refine lv_iload_n E.1 E.2.1 dX5_split_39 rfl (lv_at hl 4 rfl) ?_
          refine lv_icmp_ne (tgt := 70) E.1 E.2.1 dX5_split_40 (by decide) (fun g => ?_) (fun g => ?_)
          · have h := ifn h g
            exact hJ23 _ _ _ _ _ _ _ _ _ h hW (lv_sub hl [1, 2, 3, 5, 0] rfl)
          · have h := ifp h g
            refine lv_iload E.1 E.2.1 dX5_split_43 (lv_at hl 0 rfl) ?_
            refine lv_iconst (v := (1 : Int32)) E.1 E.2.1 dX5_split_45 (by decide) ?_
            obtain ⟨J39, eJ39, h⟩ := bnd_x h
            have hJ39 : ∀ (q34 : Nat) (x35 : Int32) (x36 : Int32) (x37 : Int32) (x38 : Int32) (σ33 : St) (H : Heap) (locs : List Loc) (ls : Array Slot), J39 q34 x35 x36 x37 x38 σ33 = some (r0, σ0) → Wo G skC A0 s σ33 H locs → lv_has ls 6 [(0, .ref (G.2.2.2 + q34)), (1, .int x35), (2, .int x36), (4, .int x37), (5, .int x38)] → W p l e ({ frames := 1, cells := 0, slots := 0, locals := 20 } : Room) s m args below meth c H locs 0 0 (MQ below (QO (PoC G skC σ0) A0 none) args s 0 0 A0) (F0 m 55 ls []) := by
              intro q34 x35 x36 x37 x38 σ33 H locs ls h hW hl
              have h := jr6 eJ39 h
              refine lv_aload_n E.1 E.2.1 dX5_split_55 rfl (lv_at hl 0 rfl) ?_
              obtain ⟨g40, h⟩ := gd_r h
              refine gf_X5_18 E hW g40 dX5_split_56 ?_
              refine lv_iload_n E.1 E.2.1 dX5_split_59 rfl (lv_at hl 2 rfl) ?_
              refine lv_iconst (v := (1 : Int32)) E.1 E.2.1 dX5_split_60 (by decide) ?_
              refine lv_isub E.1 E.2.1 dX5_split_61 ?_
              refine lv_iload E.1 E.2.1 dX5_split_62 (lv_at hl 3 rfl) ?_
              refine lv_iconst (v := (1 : Int32)) E.1 E.2.1 dX5_split_64 (by decide) ?_
              refine lv_iadd E.1 E.2.1 dX5_split_65 ?_
              obtain ⟨g41, h⟩ := gd_r h
              refine r_iast E hW (pr_eq g41.1) g41.2 dX5_split_66 (fun σ42 H locs eσ42 hW => ?_)
              have h := bnd_r eσ42 h
              refine lv_goto (tgt := 103) E.1 E.2.1 dX5_split_67 (by decide) ?_
              refine lv_iload E.1 E.2.1 dX5_split_103 (lv_at hl 4 rfl) ?_
              refine lv_istore_n (lv' := [(3, .int x38), (0, .ref (G.2.2.2 + q34)), (1, .int x35), (2, .int x36), (4, .int x37), (5, .int x38)]) E.1 E.2.1 dX5_split_105 rfl hl (by decide) rfl (fun ls hl => ?_)
              obtain ⟨x43, ex43⟩ : ∃ y : Int32, y = x37 + (1 : Int32) := ⟨_, rfl⟩
              have h := bnd_r ex43 h
              refine lv_iinc (v := x43) (lv' := [(4, .int x43), (3, .int x38), (0, .ref (G.2.2.2 + q34)), (1, .int x35), (2, .int x36), (5, .int x38)]) E.1 E.2.1 dX5_split_106 hl (k := 4) rfl (by rw [ex43]; rfl) (by decide) rfl (fun ls hl => ?_)
              refine lv_goto (tgt := 7) E.1 E.2.1 dX5_split_109 (by decide) ?_
              exact ih _ _ _ _ _ _ _ _ _ h hW (lv_sub hl [2, 3, 4, 1, 0] rfl)
            refine lv_icmp_eq (tgt := 55) E.1 E.2.1 dX5_split_46 (by decide) (fun g => ?_) (fun g => ?_)
            · have h := ifp h g
              exact hJ39 _ _ _ _ _ _ _ _ _ h hW (lv_sub hl [1, 2, 3, 5, 0] rfl)
            · have h := ifn h g
              refine lv_iload E.1 E.2.1 dX5_split_49 (lv_at hl 0 rfl) ?_
              refine lv_iconst (v := (2 : Int32)) E.1 E.2.1 dX5_split_51 (by decide) ?_
              refine lv_icmp_ne (tgt := 70) E.1 E.2.1 dX5_split_52 (by decide) (fun g => ?_) (fun g => ?_)
              · have h := ifn h g
                exact hJ23 _ _ _ _ _ _ _ _ _ h hW (lv_sub hl [1, 2, 3, 5, 0] rfl)
              · have h := ifp h g
                exact hJ39 _ _ _ _ _ _ _ _ _ h hW (lv_sub hl [1, 2, 3, 5, 0] rfl)
set_option maxHeartbeats 4000000 in
set_option maxRecDepth 100000 in
theorem m_X5_split {l : Launch} {G : GP} {sz : Nat} {q0 : Nat} {a1 : Int32} {σ σ0 : St} {r0 : Unit} (h : f_X5_split q0 a1 σ = some (r0, σ0)) : Met l yX5_split [.code yX5_split cX5_split 6 none] ({ frames := 1, cells := 0, slots := 0, locals := 20 } : Room) (va_Pc [.ref (G.2.2.2 + q0), .int a1] (PreC G skC sz σ)) (QO (PoC G skC σ0) (Aw G.2.2.2 skC.1 sz) none) 0 0 (Aw G.2.2.2 skC.1 sz) := by
  refine mkMet (by decide +kernel) (Nat.le_of_ble_eq_true rfl) skC_ok ?_
  intro p e s m below meth c ls E hW hl hr hlk
  have hl : lv_has ls 6 [(0, .ref (G.2.2.2 + q0)), (1, .int a1)] := hl
  generalize Aw G.2.2.2 skC.1 s.heap.size = A0 at E hW ⊢
  generalize ([.ref (G.2.2.2 + q0), .int a1] : List Value).toArray = args
  unfold f_X5_split at h
  refine lv_iconst (v := (0 : Int32)) E.1 E.2.1 dX5_split_0 (by decide) ?_
  refine lv_istore_n (lv' := [(2, .int (0 : Int32)), (0, .ref (G.2.2.2 + q0)), (1, .int a1)]) E.1 E.2.1 dX5_split_1 rfl hl (by decide) rfl (fun ls hl => ?_)
  refine lv_iconst (v := (0 : Int32)) E.1 E.2.1 dX5_split_2 (by decide) ?_
  refine lv_istore_n (lv' := [(3, .int (0 : Int32)), (2, .int (0 : Int32)), (0, .ref (G.2.2.2 + q0)), (1, .int a1)]) E.1 E.2.1 dX5_split_3 rfl hl (by decide) rfl (fun ls hl => ?_)
  refine lv_iconst (v := (0 : Int32)) E.1 E.2.1 dX5_split_4 (by decide) ?_
  refine lv_istore (lv' := [(4, .int (0 : Int32)), (3, .int (0 : Int32)), (2, .int (0 : Int32)), (0, .ref (G.2.2.2 + q0)), (1, .int a1)]) E.1 E.2.1 dX5_split_5 hl (by decide) rfl (fun ls hl => ?_)
  refine L_X5_split_7 E hr hlk ?_ _ _ _ _ _ _ _ _ _ _ h hW (lv_sub hl [3, 4, 2, 1, 0] rfl)
  · intro q8 x9 x10 σ7 H locs ls h hW hl
    refine lv_aload_n E.1 E.2.1 dX5_split_112 rfl (lv_at hl 0 rfl) ?_
    obtain ⟨g44, h⟩ := gd_r h
    refine gf_X5_15 E hW g44 dX5_split_113 ?_
    refine lv_iload_n E.1 E.2.1 dX5_split_116 rfl (lv_at hl 2 rfl) ?_
    refine lv_iload_n E.1 E.2.1 dX5_split_117 rfl (lv_at hl 1 rfl) ?_
    obtain ⟨g45, h⟩ := gd_r h
    refine r_iast E hW (pr_eq g45.1) g45.2 dX5_split_118 (fun σ46 H locs eσ46 hW => ?_)
    have h := bnd_r eσ46 h
    refine lv_aload_n E.1 E.2.1 dX5_split_119 rfl (lv_at hl 0 rfl) ?_
    refine gf_X5_18 E hW g44 dX5_split_120 ?_
    refine lv_iload_n E.1 E.2.1 dX5_split_123 rfl (lv_at hl 2 rfl) ?_
    refine lv_iload_n E.1 E.2.1 dX5_split_124 rfl (lv_at hl 1 rfl) ?_
    obtain ⟨g47, h⟩ := gd_r h
    refine r_iast E hW (pr_eq g47.1) g47.2 dX5_split_125 (fun σ48 H locs eσ48 hW => ?_)
    have h := bnd_r eσ48 h
    refine lv_aload_n E.1 E.2.1 dX5_split_126 rfl (lv_at hl 0 rfl) ?_
    refine lv_iload_n E.1 E.2.1 dX5_split_127 rfl (lv_at hl 2 rfl) ?_
    refine pf_X5_29 E hW g44 dX5_split_128 (fun σ49 H locs eσ49 hW => ?_)
    have h := bnd_r eσ49 h
    refine lv_aload_n E.1 E.2.1 dX5_split_131 rfl (lv_at hl 0 rfl) ?_
    refine lv_iconst (v := (-1 : Int32)) E.1 E.2.1 dX5_split_132 (by decide) ?_
    refine pf_X5_32 E hW g44 dX5_split_133 (fun σ50 H locs eσ50 hW => ?_)
    have h := bnd_r eσ50 h
    refine lv_aload_n E.1 E.2.1 dX5_split_136 rfl (lv_at hl 0 rfl) ?_
    obtain ⟨_r, σ51, c52, h⟩ := obn_r h
    refine c_V (As := []) (rest := []) E hW (m_X5_advance c52) g44 rfl kw_360 wv_X5_advance yo_X5_advance ⟨rfl, rfl⟩ ⟨(Nat.le_of_ble_eq_true rfl), (Nat.le_of_ble_eq_true rfl)⟩ (lv_size hl) (Nat.le_of_ble_eq_true rfl) ⟨(Nat.le_of_ble_eq_true rfl), (Nat.le_of_ble_eq_true rfl)⟩ rfl dX5_split_137 (fun H locs hW => ?_)
    refine W.eq (g2 := F0 m 140 ls []) rfl ?_
    exact e_v E hW hr hlk h dX5_split_140
set_option maxHeartbeats 4000000 in
set_option maxRecDepth 100000 in
theorem L_X5_isWord_20 {p : Program} {l : Launch} {e : Env} {s : State} {m : MethodId} {args : Array Value} {below : List Frame} {meth : Method} {c : Code} {G : GP} {A0 : Nat → Prop} {σ0 : St} {r0 : Int32} (E : En p m c s cX5_isWord 3 yX5_isWord.cls G A0) (hr : meth.sig.returnType = (some .boolean)) (hlk : meth.locks = false) : ∀ (n7 : Nat) (q4 : Nat) (q5 : Nat) (x6 : Int32) (σ3 : St) (H : Heap) (locs : List Loc) (ls : Array Slot), f_X5_isWord_L20 n7 q4 q5 x6 σ3 = some (r0, σ0) → Wo G skC A0 s σ3 H locs → lv_has ls 3 [(0, .ref (G.2.2.2 + q4)), (1, .ref (G.2.2.1 q5)), (2, .int x6)] → W p l e ({ frames := 6, cells := 0, slots := 0, locals := 200 } : Room) s m args below meth c H locs 0 0 (MQ below (QO (PoC G skC σ0) A0 (some (.int r0))) args s 0 0 A0) (F0 m 20 ls []) := by
  intro n7
  induction n7 with
  | zero =>
    intro q4 q5 x6 σ3 H locs ls h hW hl
    rw [f_X5_isWord_L20] at h
    cases h
  | succ n7 ih =>
    intro q4 q5 x6 σ3 H locs ls h hW hl
    rw [f_X5_isWord_L20] at h
    refine lv_iload_n E.1 E.2.1 dX5_isWord_20 rfl (lv_at hl 2 rfl) ?_
    refine lv_aload_n E.1 E.2.1 dX5_isWord_21 rfl (lv_at hl 1 rfl) ?_
    obtain ⟨g8, h⟩ := gd_r h
    refine c_len E hW (lv_size hl) g8 kw_369 (Nat.le_of_ble_eq_true rfl) ⟨(Nat.le_of_ble_eq_true rfl), (Nat.le_of_ble_eq_true rfl)⟩ ⟨(Nat.le_of_ble_eq_true rfl), (Nat.le_of_ble_eq_true rfl)⟩ dX5_isWord_22 (fun H locs hW => ?_)
    refine W.eq (g2 := F0 m 25 ls [.int (nI (strB q5).length), .int x6]) rfl ?_
    refine lv_icmp_ge (tgt := 76) E.1 E.2.1 dX5_isWord_25 (by decide) (fun g => ?_) (fun g => ?_)
    · have h := ifp h g
      refine lv_iconst (v := (1 : Int32)) E.1 E.2.1 dX5_isWord_76 (by decide) ?_
      exact e_z E hW hr hlk (by decide) h dX5_isWord_77
    · have h := ifn h g
      refine lv_aload_n E.1 E.2.1 dX5_isWord_28 rfl (lv_at hl 0 rfl) ?_
      obtain ⟨g9, h⟩ := gd_r h
      refine gf_X5_38 E hW g9 dX5_isWord_29 ?_
      refine lv_iload_n E.1 E.2.1 dX5_isWord_32 rfl (lv_at hl 2 rfl) ?_
      refine lv_iadd E.1 E.2.1 dX5_isWord_33 ?_
      refine lv_if_lt (tgt := 68) E.1 E.2.1 dX5_isWord_34 (by decide) (fun g => ?_) (fun g => ?_)
      · have h := ifp h g
        refine lv_iconst (v := (0 : Int32)) E.1 E.2.1 dX5_isWord_68 (by decide) ?_
        exact e_z E hW hr hlk (by decide) h dX5_isWord_69
      · have h := ifn h g
        refine lv_aload_n E.1 E.2.1 dX5_isWord_37 rfl (lv_at hl 0 rfl) ?_
        refine gf_X5_38 E hW g9 dX5_isWord_38 ?_
        refine lv_iload_n E.1 E.2.1 dX5_isWord_41 rfl (lv_at hl 2 rfl) ?_
        refine lv_iadd E.1 E.2.1 dX5_isWord_42 ?_
        refine lv_sipush (v := (700 : Int32)) E.1 E.2.1 dX5_isWord_43 (by decide) ?_
        refine lv_icmp_ge (tgt := 68) E.1 E.2.1 dX5_isWord_46 (by decide) (fun g => ?_) (fun g => ?_)
        · have h := ifp h g
          refine lv_iconst (v := (0 : Int32)) E.1 E.2.1 dX5_isWord_68 (by decide) ?_
          exact e_z E hW hr hlk (by decide) h dX5_isWord_69
        · have h := ifn h g
          refine lv_aload_n E.1 E.2.1 dX5_isWord_49 rfl (lv_at hl 0 rfl) ?_
          refine gf_X5_9 E hW g9 dX5_isWord_50 ?_
          refine lv_aload_n E.1 E.2.1 dX5_isWord_53 rfl (lv_at hl 0 rfl) ?_
          refine gf_X5_38 E hW g9 dX5_isWord_54 ?_
          refine lv_iload_n E.1 E.2.1 dX5_isWord_57 rfl (lv_at hl 2 rfl) ?_
          refine lv_iadd E.1 E.2.1 dX5_isWord_58 ?_
          obtain ⟨g10, h⟩ := gd_r h
          refine r_iald E hW (pr_eq g10.1) g10.2 dX5_isWord_59 ?_
          refine lv_aload_n E.1 E.2.1 dX5_isWord_60 rfl (lv_at hl 1 rfl) ?_
          refine lv_iload_n E.1 E.2.1 dX5_isWord_61 rfl (lv_at hl 2 rfl) ?_
          obtain ⟨g11, h⟩ := gd_r h
          refine c_charAt E hW (lv_size hl) g11 kw_379 (Nat.le_of_ble_eq_true rfl) ⟨(Nat.le_of_ble_eq_true rfl), (Nat.le_of_ble_eq_true rfl)⟩ ⟨(Nat.le_of_ble_eq_true rfl), (Nat.le_of_ble_eq_true rfl)⟩ dX5_isWord_62 (fun H locs hW => ?_)
          refine W.eq (g2 := F0 m 65 ls [.int ((strB q5).getD x6.toNatClampNeg 0), .int (σ3.1 (rC q4 0) ((σ3.1 q4 6) + x6).toNatClampNeg)]) rfl ?_
          refine lv_icmp_eq (tgt := 70) E.1 E.2.1 dX5_isWord_65 (by decide) (fun g => ?_) (fun g => ?_)
          · have h := ifp h g
            obtain ⟨x12, ex12⟩ : ∃ y : Int32, y = x6 + (1 : Int32) := ⟨_, rfl⟩
            have h := bnd_r ex12 h
            refine lv_iinc (v := x12) (lv' := [(2, .int x12), (0, .ref (G.2.2.2 + q4)), (1, .ref (G.2.2.1 q5))]) E.1 E.2.1 dX5_isWord_70 hl (k := 2) rfl (by rw [ex12]; rfl) (by decide) rfl (fun ls hl => ?_)
            refine lv_goto (tgt := 20) E.1 E.2.1 dX5_isWord_73 (by decide) ?_
            exact ih _ _ _ _ _ _ _ h hW (lv_sub hl [1, 2, 0] rfl)
          · have h := ifn h g
            refine lv_iconst (v := (0 : Int32)) E.1 E.2.1 dX5_isWord_68 (by decide) ?_
            exact e_z E hW hr hlk (by decide) h dX5_isWord_69
set_option maxHeartbeats 4000000 in
set_option maxRecDepth 100000 in
theorem m_X5_isWord {l : Launch} {G : GP} {sz : Nat} {q0 : Nat} {q1 : Nat} {σ σ0 : St} {r0 : Int32} (h : f_X5_isWord q0 q1 σ = some (r0, σ0)) : Met l yX5_isWord [.code yX5_isWord cX5_isWord 3 (some .boolean)] ({ frames := 6, cells := 0, slots := 0, locals := 200 } : Room) (va_Pc [.ref (G.2.2.2 + q0), .ref (G.2.2.1 q1)] (PreC G skC sz σ)) (QO (PoC G skC σ0) (Aw G.2.2.2 skC.1 sz) (some (.int r0))) 0 0 (Aw G.2.2.2 skC.1 sz) := by
  refine mkMet (by decide +kernel) (Nat.le_of_ble_eq_true rfl) skC_ok ?_
  intro p e s m below meth c ls E hW hl hr hlk
  have hl : lv_has ls 3 [(0, .ref (G.2.2.2 + q0)), (1, .ref (G.2.2.1 q1))] := hl
  generalize Aw G.2.2.2 skC.1 s.heap.size = A0 at E hW ⊢
  generalize ([.ref (G.2.2.2 + q0), .ref (G.2.2.1 q1)] : List Value).toArray = args
  unfold f_X5_isWord at h
  refine lv_aload_n E.1 E.2.1 dX5_isWord_0 rfl (lv_at hl 0 rfl) ?_
  obtain ⟨g1, h⟩ := gd_r h
  refine gf_X5_41 E hW g1 dX5_isWord_1 ?_
  refine lv_aload_n E.1 E.2.1 dX5_isWord_4 rfl (lv_at hl 0 rfl) ?_
  refine gf_X5_38 E hW g1 dX5_isWord_5 ?_
  refine lv_isub E.1 E.2.1 dX5_isWord_8 ?_
  refine lv_aload_n E.1 E.2.1 dX5_isWord_9 rfl (lv_at hl 1 rfl) ?_
  obtain ⟨g2, h⟩ := gd_r h
  refine c_len E hW (lv_size hl) g2 kw_369 (Nat.le_of_ble_eq_true rfl) ⟨(Nat.le_of_ble_eq_true rfl), (Nat.le_of_ble_eq_true rfl)⟩ ⟨(Nat.le_of_ble_eq_true rfl), (Nat.le_of_ble_eq_true rfl)⟩ dX5_isWord_10 (fun H locs hW => ?_)
  refine W.eq (g2 := F0 m 13 ls [.int (nI (strB q1).length), .int ((σ.1 q0 7) - (σ.1 q0 6))]) rfl ?_
  refine lv_icmp_eq (tgt := 18) E.1 E.2.1 dX5_isWord_13 (by decide) (fun g => ?_) (fun g => ?_)
  · have h := ifp h g
    refine lv_iconst (v := (0 : Int32)) E.1 E.2.1 dX5_isWord_18 (by decide) ?_
    refine lv_istore_n (lv' := [(2, .int (0 : Int32)), (0, .ref (G.2.2.2 + q0)), (1, .ref (G.2.2.1 q1))]) E.1 E.2.1 dX5_isWord_19 rfl hl (by decide) rfl (fun ls hl => ?_)
    refine L_X5_isWord_20 E hr hlk _ _ _ _ _ _ _ _ h hW (lv_sub hl [1, 2, 0] rfl)
  · have h := ifn h g
    refine lv_iconst (v := (0 : Int32)) E.1 E.2.1 dX5_isWord_16 (by decide) ?_
    exact e_z E hW hr hlk (by decide) h dX5_isWord_17
set_option maxHeartbeats 4000000 in
set_option maxRecDepth 100000 in
theorem m_X4_fail {l : Launch} {G : GP} {sz : Nat} {q0 : Nat} {a1 : Int32} {σ σ0 : St} {r0 : Int32} (h : f_X4_fail q0 a1 σ = some (r0, σ0)) : Met l yX4_fail [.code yX4_fail cX4_fail 2 (some .boolean)] ({ frames := 0, cells := 0, slots := 0, locals := 0 } : Room) (va_Pc [.ref (G.2.2.2 + q0), .int a1] (PreC G skC sz σ)) (QO (PoC G skC σ0) (Aw G.2.2.2 skC.1 sz) (some (.int r0))) 0 0 (Aw G.2.2.2 skC.1 sz) := by
  refine mkMet (by decide +kernel) (Nat.le_of_ble_eq_true rfl) skC_ok ?_
  intro p e s m below meth c ls E hW hl hr hlk
  have hl : lv_has ls 2 [(0, .ref (G.2.2.2 + q0)), (1, .int a1)] := hl
  generalize Aw G.2.2.2 skC.1 s.heap.size = A0 at E hW ⊢
  generalize ([.ref (G.2.2.2 + q0), .int a1] : List Value).toArray = args
  unfold f_X4_fail at h
  refine lv_aload_n E.1 E.2.1 dX4_fail_0 rfl (lv_at hl 0 rfl) ?_
  refine lv_iload_n E.1 E.2.1 dX4_fail_1 rfl (lv_at hl 1 rfl) ?_
  obtain ⟨g1, h⟩ := gd_r h
  refine pf_X4_90 E hW g1 dX4_fail_2 (fun σ2 H locs eσ2 hW => ?_)
  have h := bnd_r eσ2 h
  refine lv_iconst (v := (0 : Int32)) E.1 E.2.1 dX4_fail_5 (by decide) ?_
  exact e_z E hW hr hlk (by decide) h dX4_fail_6
set_option maxHeartbeats 4000000 in
set_option maxRecDepth 100000 in
theorem m_X4_take {l : Launch} {G : GP} {sz : Nat} {q0 : Nat} {a1 : Int32} {σ σ0 : St} {r0 : Int32} (h : f_X4_take q0 a1 σ = some (r0, σ0)) : Met l yX4_take [.code yX4_take cX4_take 2 (some .boolean)] ({ frames := 1, cells := 0, slots := 0, locals := 21 } : Room) (va_Pc [.ref (G.2.2.2 + q0), .int a1] (PreC G skC sz σ)) (QO (PoC G skC σ0) (Aw G.2.2.2 skC.1 sz) (some (.int r0))) 0 0 (Aw G.2.2.2 skC.1 sz) := by
  refine mkMet (by decide +kernel) (Nat.le_of_ble_eq_true rfl) skC_ok ?_
  intro p e s m below meth c ls E hW hl hr hlk
  have hl : lv_has ls 2 [(0, .ref (G.2.2.2 + q0)), (1, .int a1)] := hl
  generalize Aw G.2.2.2 skC.1 s.heap.size = A0 at E hW ⊢
  generalize ([.ref (G.2.2.2 + q0), .int a1] : List Value).toArray = args
  unfold f_X4_take at h
  refine lv_aload_n E.1 E.2.1 dX4_take_0 rfl (lv_at hl 0 rfl) ?_
  obtain ⟨g1, h⟩ := gd_r h
  refine gf_X4_14 E hW g1 dX4_take_1 ?_
  obtain ⟨g2, h⟩ := gd_r h
  refine gf_X4_72 E hW g2 dX4_take_4 ?_
  refine lv_iload_n E.1 E.2.1 dX4_take_7 rfl (lv_at hl 1 rfl) ?_
  refine lv_icmp_eq (tgt := 18) E.1 E.2.1 dX4_take_8 (by decide) (fun g => ?_) (fun g => ?_)
  · have h := ifp h g
    refine lv_aload_n E.1 E.2.1 dX4_take_18 rfl (lv_at hl 0 rfl) ?_
    refine gf_X4_14 E hW g1 dX4_take_19 ?_
    obtain ⟨_r, σ3, c4, h⟩ := obn_r h
    refine c_V (As := []) (rest := []) E hW (m_X5_advance c4) g2 rfl kw_421 wv_X5_advance yo_X5_advance ⟨rfl, rfl⟩ ⟨(Nat.le_of_ble_eq_true rfl), (Nat.le_of_ble_eq_true rfl)⟩ (lv_size hl) (Nat.le_of_ble_eq_true rfl) ⟨(Nat.le_of_ble_eq_true rfl), (Nat.le_of_ble_eq_true rfl)⟩ rfl dX4_take_22 (fun H locs hW => ?_)
    refine W.eq (g2 := F0 m 25 ls []) rfl ?_
    refine lv_iconst (v := (1 : Int32)) E.1 E.2.1 dX4_take_25 (by decide) ?_
    exact e_z E hW hr hlk (by decide) h dX4_take_26
  · have h := ifn h g
    refine lv_aload_n E.1 E.2.1 dX4_take_11 rfl (lv_at hl 0 rfl) ?_
    refine lv_bipush (v := (-2 : Int32)) E.1 E.2.1 dX4_take_12 (by decide) ?_
    obtain ⟨x6, σ5, c7, h⟩ := obn_r h
    refine c_V (As := [.int (-2 : Int32)]) (rest := []) E hW (m_X4_fail c7) g1 rfl kw_417 wv_X4_fail yo_X4_fail ⟨rfl, rfl⟩ ⟨(Nat.le_of_ble_eq_true rfl), (Nat.le_of_ble_eq_true rfl)⟩ (lv_size hl) (Nat.le_of_ble_eq_true rfl) ⟨(Nat.le_of_ble_eq_true rfl), (Nat.le_of_ble_eq_true rfl)⟩ rfl dX4_take_14 (fun H locs hW => ?_)
    refine W.eq (g2 := F0 m 17 ls [.int x6]) rfl ?_
    obtain ⟨g8, h⟩ := gd_r h
    exact e_z E hW hr hlk g8 h dX4_take_17
set_option maxHeartbeats 4000000 in
set_option maxRecDepth 100000 in
theorem m_X5_name {l : Launch} {G : GP} {sz : Nat} {q0 : Nat} {σ σ0 : St} {r0 : Int32} (h : f_X5_name q0 σ = some (r0, σ0)) : Met l yX5_name [.code yX5_name cX5_name 2 (some .int)] ({ frames := 0, cells := 0, slots := 0, locals := 0 } : Room) (va_Pc [.ref (G.2.2.2 + q0)] (PreC G skC sz σ)) (QO (PoC G skC σ0) (Aw G.2.2.2 skC.1 sz) (some (.int r0))) 0 0 (Aw G.2.2.2 skC.1 sz) := by
  refine mkMet (by decide +kernel) (Nat.le_of_ble_eq_true rfl) skC_ok ?_
  intro p e s m below meth c ls E hW hl hr hlk
  have hl : lv_has ls 2 [(0, .ref (G.2.2.2 + q0))] := hl
  generalize Aw G.2.2.2 skC.1 s.heap.size = A0 at E hW ⊢
  generalize ([.ref (G.2.2.2 + q0)] : List Value).toArray = args
  unfold f_X5_name at h
  refine lv_aload_n E.1 E.2.1 dX5_name_0 rfl (lv_at hl 0 rfl) ?_
  obtain ⟨g1, h⟩ := gd_r h
  refine gf_X5_41 E hW g1 dX5_name_1 ?_
  refine lv_aload_n E.1 E.2.1 dX5_name_4 rfl (lv_at hl 0 rfl) ?_
  refine gf_X5_38 E hW g1 dX5_name_5 ?_
  refine lv_isub E.1 E.2.1 dX5_name_8 ?_
  refine lv_iconst (v := (1 : Int32)) E.1 E.2.1 dX5_name_9 (by decide) ?_
  obtain ⟨J5, eJ5, h⟩ := bnd_x h
  have hJ5 : ∀ (q3 : Nat) (x4 : Int32) (σ2 : St) (H : Heap) (locs : List Loc) (ls : Array Slot), J5 q3 x4 σ2 = some (r0, σ0) → Wo G skC A0 s σ2 H locs → lv_has ls 2 [(0, .ref (G.2.2.2 + q3))] → W p l e ({ frames := 0, cells := 0, slots := 0, locals := 0 } : Room) s m args below meth c H locs 0 0 (MQ below (QO (PoC G skC σ0) A0 (some (.int r0))) args s 0 0 A0) (F0 m 36 ls [.int x4]) := by
    intro q3 x4 σ2 H locs ls h hW hl
    have h := jr3 eJ5 h
    refine lv_istore_n (lv' := [(1, .int x4), (0, .ref (G.2.2.2 + q3))]) E.1 E.2.1 dX5_name_36 rfl hl (by decide) rfl (fun ls hl => ?_)
    refine lv_iload_n E.1 E.2.1 dX5_name_37 rfl (lv_at hl 0 rfl) ?_
    refine lv_if_eq (tgt := 51) E.1 E.2.1 dX5_name_38 (by decide) (fun g => ?_) (fun g => ?_)
    · have h := ifp h g
      refine lv_iconst (v := (-1 : Int32)) E.1 E.2.1 dX5_name_51 (by decide) ?_
      exact e_i E hW hr hlk h dX5_name_52
    · have h := ifn h g
      refine lv_aload_n E.1 E.2.1 dX5_name_41 rfl (lv_at hl 1 rfl) ?_
      obtain ⟨g6, h⟩ := gd_r h
      refine gf_X5_44 E hW g6 dX5_name_42 ?_
      refine lv_bipush (v := (97 : Int32)) E.1 E.2.1 dX5_name_45 (by decide) ?_
      refine lv_isub E.1 E.2.1 dX5_name_47 ?_
      refine lv_goto (tgt := 52) E.1 E.2.1 dX5_name_48 (by decide) ?_
      exact e_i E hW hr hlk h dX5_name_52
  obtain ⟨J9, eJ9, h⟩ := bnd_x h
  have hJ9 : ∀ (q8 : Nat) (σ7 : St) (H : Heap) (locs : List Loc) (ls : Array Slot), J9 q8 σ7 = some (r0, σ0) → Wo G skC A0 s σ7 H locs → lv_has ls 2 [(0, .ref (G.2.2.2 + q8))] → W p l e ({ frames := 0, cells := 0, slots := 0, locals := 0 } : Room) s m args below meth c H locs 0 0 (MQ below (QO (PoC G skC σ0) A0 (some (.int r0))) args s 0 0 A0) (F0 m 35 ls []) := by
    intro q8 σ7 H locs ls h hW hl
    have h := jr2 eJ9 h
    refine lv_iconst (v := (0 : Int32)) E.1 E.2.1 dX5_name_35 (by decide) ?_
    exact hJ5 _ _ _ _ _ _ h hW (lv_sub hl [0] rfl)
  refine lv_icmp_ne (tgt := 35) E.1 E.2.1 dX5_name_10 (by decide) (fun g => ?_) (fun g => ?_)
  · have h := ifn h g
    exact hJ9 _ _ _ _ _ h hW (lv_sub hl [0] rfl)
  · have h := ifp h g
    refine lv_aload_n E.1 E.2.1 dX5_name_13 rfl (lv_at hl 0 rfl) ?_
    refine gf_X5_44 E hW g1 dX5_name_14 ?_
    refine lv_bipush (v := (97 : Int32)) E.1 E.2.1 dX5_name_17 (by decide) ?_
    refine lv_icmp_lt (tgt := 35) E.1 E.2.1 dX5_name_19 (by decide) (fun g => ?_) (fun g => ?_)
    · have h := ifp h g
      exact hJ9 _ _ _ _ _ h hW (lv_sub hl [0] rfl)
    · have h := ifn h g
      refine lv_aload_n E.1 E.2.1 dX5_name_22 rfl (lv_at hl 0 rfl) ?_
      refine gf_X5_44 E hW g1 dX5_name_23 ?_
      refine lv_bipush (v := (105 : Int32)) E.1 E.2.1 dX5_name_26 (by decide) ?_
      refine lv_icmp_ge (tgt := 35) E.1 E.2.1 dX5_name_28 (by decide) (fun g => ?_) (fun g => ?_)
      · have h := ifp h g
        exact hJ9 _ _ _ _ _ h hW (lv_sub hl [0] rfl)
      · have h := ifn h g
        refine lv_iconst (v := (1 : Int32)) E.1 E.2.1 dX5_name_31 (by decide) ?_
        refine lv_goto (tgt := 36) E.1 E.2.1 dX5_name_32 (by decide) ?_
        exact hJ5 _ _ _ _ _ _ h hW (lv_sub hl [0] rfl)
set_option maxHeartbeats 4000000 in
set_option maxRecDepth 100000 in
theorem m_X4_open {l : Launch} {G : GP} {sz : Nat} {q0 : Nat} {a1 : Int32} {a2 : Int32} {σ σ0 : St} {r0 : Int32} (h : f_X4_open q0 a1 a2 σ = some (r0, σ0)) : Met l yX4_open [.code yX4_open cX4_open 3 (some .boolean)] ({ frames := 1, cells := 0, slots := 0, locals := 21 } : Room) (va_Pc [.ref (G.2.2.2 + q0), .int a1, .int a2] (PreC G skC sz σ)) (QO (PoC G skC σ0) (Aw G.2.2.2 skC.1 sz) (some (.int r0))) 0 0 (Aw G.2.2.2 skC.1 sz) := by
  refine mkMet (by decide +kernel) (Nat.le_of_ble_eq_true rfl) skC_ok ?_
  intro p e s m below meth c ls E hW hl hr hlk
  have hl : lv_has ls 3 [(0, .ref (G.2.2.2 + q0)), (1, .int a1), (2, .int a2)] := hl
  generalize Aw G.2.2.2 skC.1 s.heap.size = A0 at E hW ⊢
  generalize ([.ref (G.2.2.2 + q0), .int a1, .int a2] : List Value).toArray = args
  unfold f_X4_open at h
  refine lv_aload_n E.1 E.2.1 dX4_open_0 rfl (lv_at hl 0 rfl) ?_
  obtain ⟨g1, h⟩ := gd_r h
  refine gf_X4_14 E hW g1 dX4_open_1 ?_
  obtain ⟨g2, h⟩ := gd_r h
  refine gf_X4_72 E hW g2 dX4_open_4 ?_
  refine lv_iload_n E.1 E.2.1 dX4_open_7 rfl (lv_at hl 1 rfl) ?_
  refine lv_icmp_eq (tgt := 18) E.1 E.2.1 dX4_open_8 (by decide) (fun g => ?_) (fun g => ?_)
  · have h := ifp h g
    refine lv_iload_n E.1 E.2.1 dX4_open_18 rfl (lv_at hl 2 rfl) ?_
    refine lv_iconst (v := (4 : Int32)) E.1 E.2.1 dX4_open_19 (by decide) ?_
    refine lv_icmp_lt (tgt := 30) E.1 E.2.1 dX4_open_20 (by decide) (fun g => ?_) (fun g => ?_)
    · have h := ifp h g
      refine lv_aload_n E.1 E.2.1 dX4_open_30 rfl (lv_at hl 0 rfl) ?_
      refine gf_X4_14 E hW g1 dX4_open_31 ?_
      obtain ⟨_r, σ3, c4, h⟩ := obn_r h
      refine c_V (As := []) (rest := []) E hW (m_X5_advance c4) g2 rfl kw_421 wv_X5_advance yo_X5_advance ⟨rfl, rfl⟩ ⟨(Nat.le_of_ble_eq_true rfl), (Nat.le_of_ble_eq_true rfl)⟩ (lv_size hl) (Nat.le_of_ble_eq_true rfl) ⟨(Nat.le_of_ble_eq_true rfl), (Nat.le_of_ble_eq_true rfl)⟩ rfl dX4_open_34 (fun H locs hW => ?_)
      refine W.eq (g2 := F0 m 37 ls []) rfl ?_
      refine lv_iconst (v := (1 : Int32)) E.1 E.2.1 dX4_open_37 (by decide) ?_
      exact e_z E hW hr hlk (by decide) h dX4_open_38
    · have h := ifn h g
      refine lv_aload_n E.1 E.2.1 dX4_open_23 rfl (lv_at hl 0 rfl) ?_
      refine lv_bipush (v := (-6 : Int32)) E.1 E.2.1 dX4_open_24 (by decide) ?_
      obtain ⟨x6, σ5, c7, h⟩ := obn_r h
      refine c_V (As := [.int (-6 : Int32)]) (rest := []) E hW (m_X4_fail c7) g1 rfl kw_417 wv_X4_fail yo_X4_fail ⟨rfl, rfl⟩ ⟨(Nat.le_of_ble_eq_true rfl), (Nat.le_of_ble_eq_true rfl)⟩ (lv_size hl) (Nat.le_of_ble_eq_true rfl) ⟨(Nat.le_of_ble_eq_true rfl), (Nat.le_of_ble_eq_true rfl)⟩ rfl dX4_open_26 (fun H locs hW => ?_)
      refine W.eq (g2 := F0 m 29 ls [.int x6]) rfl ?_
      obtain ⟨g8, h⟩ := gd_r h
      exact e_z E hW hr hlk g8 h dX4_open_29
  · have h := ifn h g
    refine lv_aload_n E.1 E.2.1 dX4_open_11 rfl (lv_at hl 0 rfl) ?_
    refine lv_bipush (v := (-2 : Int32)) E.1 E.2.1 dX4_open_12 (by decide) ?_
    obtain ⟨x10, σ9, c11, h⟩ := obn_r h
    refine c_V (As := [.int (-2 : Int32)]) (rest := []) E hW (m_X4_fail c11) g1 rfl kw_417 wv_X4_fail yo_X4_fail ⟨rfl, rfl⟩ ⟨(Nat.le_of_ble_eq_true rfl), (Nat.le_of_ble_eq_true rfl)⟩ (lv_size hl) (Nat.le_of_ble_eq_true rfl) ⟨(Nat.le_of_ble_eq_true rfl), (Nat.le_of_ble_eq_true rfl)⟩ rfl dX4_open_14 (fun H locs hW => ?_)
    refine W.eq (g2 := F0 m 17 ls [.int x10]) rfl ?_
    obtain ⟨g12, h⟩ := gd_r h
    exact e_z E hW hr hlk g12 h dX4_open_17
set_option maxHeartbeats 4000000 in
set_option maxRecDepth 100000 in
theorem L_X5_number_7 {p : Program} {l : Launch} {e : Env} {s : State} {m : MethodId} {args : Array Value} {below : List Frame} {meth : Method} {c : Code} {G : GP} {A0 : Nat → Prop} {σ0 : St} {r0 : Int32} (E : En p m c s cX5_number 3 yX5_number.cls G A0) (hr : meth.sig.returnType = (some .int)) (hlk : meth.locks = false) : ∀ (n7 : Nat) (q4 : Nat) (x5 : Int32) (x6 : Int32) (σ3 : St) (H : Heap) (locs : List Loc) (ls : Array Slot), f_X5_number_L7 n7 q4 x5 x6 σ3 = some (r0, σ0) → Wo G skC A0 s σ3 H locs → lv_has ls 3 [(0, .ref (G.2.2.2 + q4)), (1, .int x5), (2, .int x6)] → W p l e ({ frames := 1, cells := 0, slots := 0, locals := 24 } : Room) s m args below meth c H locs 0 0 (MQ below (QO (PoC G skC σ0) A0 (some (.int r0))) args s 0 0 A0) (F0 m 7 ls []) := by
  intro n7
  induction n7 with
  | zero =>
    intro q4 x5 x6 σ3 H locs ls h hW hl
    rw [f_X5_number_L7] at h
    cases h
  | succ n7 ih =>
    intro q4 x5 x6 σ3 H locs ls h hW hl
    rw [f_X5_number_L7] at h
    refine lv_iload_n E.1 E.2.1 dX5_number_7 rfl (lv_at hl 2 rfl) ?_
    refine lv_aload_n E.1 E.2.1 dX5_number_8 rfl (lv_at hl 0 rfl) ?_
    obtain ⟨g8, h⟩ := gd_r h
    refine gf_X5_41 E hW g8 dX5_number_9 ?_
    refine lv_icmp_ge (tgt := 52) E.1 E.2.1 dX5_number_12 (by decide) (fun g => ?_) (fun g => ?_)
    · have h := ifp h g
      refine lv_iload_n E.1 E.2.1 dX5_number_52 rfl (lv_at hl 1 rfl) ?_
      exact e_i E hW hr hlk h dX5_number_53
    · have h := ifn h g
      refine lv_iload_n E.1 E.2.1 dX5_number_15 rfl (lv_at hl 2 rfl) ?_
      refine lv_if_lt (tgt := 52) E.1 E.2.1 dX5_number_16 (by decide) (fun g => ?_) (fun g => ?_)
      · have h := ifp h g
        refine lv_iload_n E.1 E.2.1 dX5_number_52 rfl (lv_at hl 1 rfl) ?_
        exact e_i E hW hr hlk h dX5_number_53
      · have h := ifn h g
        refine lv_iload_n E.1 E.2.1 dX5_number_19 rfl (lv_at hl 2 rfl) ?_
        refine lv_sipush (v := (700 : Int32)) E.1 E.2.1 dX5_number_20 (by decide) ?_
        refine lv_icmp_ge (tgt := 52) E.1 E.2.1 dX5_number_23 (by decide) (fun g => ?_) (fun g => ?_)
        · have h := ifp h g
          refine lv_iload_n E.1 E.2.1 dX5_number_52 rfl (lv_at hl 1 rfl) ?_
          exact e_i E hW hr hlk h dX5_number_53
        · have h := ifn h g
          refine lv_bipush (v := (10 : Int32)) E.1 E.2.1 dX5_number_26 (by decide) ?_
          refine lv_iload_n E.1 E.2.1 dX5_number_28 rfl (lv_at hl 1 rfl) ?_
          refine lv_imul E.1 E.2.1 dX5_number_29 ?_
          refine lv_aload_n E.1 E.2.1 dX5_number_30 rfl (lv_at hl 0 rfl) ?_
          refine gf_X5_9 E hW g8 dX5_number_31 ?_
          refine lv_iload_n E.1 E.2.1 dX5_number_34 rfl (lv_at hl 2 rfl) ?_
          obtain ⟨g9, h⟩ := gd_r h
          refine r_iald E hW (pr_eq g9.1) g9.2 dX5_number_35 ?_
          refine lv_iadd E.1 E.2.1 dX5_number_36 ?_
          refine lv_bipush (v := (48 : Int32)) E.1 E.2.1 dX5_number_37 (by decide) ?_
          refine lv_isub E.1 E.2.1 dX5_number_39 ?_
          refine lv_ldc (v := (1000000 : Int32)) E.1 E.2.1 E.2.2.2.1 (E.wd kw_548) dX5_number_40 ?_
          refine r_minI E (lv_size hl) ⟨kw_549, kw_509, kw_19, kw_510⟩ ⟨(Nat.le_of_ble_eq_true rfl), (Nat.le_of_ble_eq_true rfl)⟩ ⟨(Nat.le_of_ble_eq_true rfl), (Nat.le_of_ble_eq_true rfl)⟩ dX5_number_42 ?_
          refine lv_topi (fun x10 ex10 => ?_)
          have h := bnd_r ex10 h
          refine lv_istore_n (lv' := [(1, .int x10), (0, .ref (G.2.2.2 + q4)), (2, .int x6)]) E.1 E.2.1 dX5_number_45 rfl hl (by decide) rfl (fun ls hl => ?_)
          obtain ⟨x11, ex11⟩ : ∃ y : Int32, y = x6 + (1 : Int32) := ⟨_, rfl⟩
          have h := bnd_r ex11 h
          refine lv_iinc (v := x11) (lv' := [(2, .int x11), (1, .int x10), (0, .ref (G.2.2.2 + q4))]) E.1 E.2.1 dX5_number_46 hl (k := 2) rfl (by rw [ex11]; rfl) (by decide) rfl (fun ls hl => ?_)
          refine lv_goto (tgt := 7) E.1 E.2.1 dX5_number_49 (by decide) ?_
          exact ih _ _ _ _ _ _ _ h hW (lv_sub hl [2, 1, 0] rfl)
set_option maxHeartbeats 4000000 in
set_option maxRecDepth 100000 in
theorem m_X5_number {l : Launch} {G : GP} {sz : Nat} {q0 : Nat} {σ σ0 : St} {r0 : Int32} (h : f_X5_number q0 σ = some (r0, σ0)) : Met l yX5_number [.code yX5_number cX5_number 3 (some .int)] ({ frames := 1, cells := 0, slots := 0, locals := 24 } : Room) (va_Pc [.ref (G.2.2.2 + q0)] (PreC G skC sz σ)) (QO (PoC G skC σ0) (Aw G.2.2.2 skC.1 sz) (some (.int r0))) 0 0 (Aw G.2.2.2 skC.1 sz) := by
  refine mkMet (by decide +kernel) (Nat.le_of_ble_eq_true rfl) skC_ok ?_
  intro p e s m below meth c ls E hW hl hr hlk
  have hl : lv_has ls 3 [(0, .ref (G.2.2.2 + q0))] := hl
  generalize Aw G.2.2.2 skC.1 s.heap.size = A0 at E hW ⊢
  generalize ([.ref (G.2.2.2 + q0)] : List Value).toArray = args
  unfold f_X5_number at h
  refine lv_iconst (v := (0 : Int32)) E.1 E.2.1 dX5_number_0 (by decide) ?_
  refine lv_istore_n (lv' := [(1, .int (0 : Int32)), (0, .ref (G.2.2.2 + q0))]) E.1 E.2.1 dX5_number_1 rfl hl (by decide) rfl (fun ls hl => ?_)
  refine lv_aload_n E.1 E.2.1 dX5_number_2 rfl (lv_at hl 1 rfl) ?_
  obtain ⟨g1, h⟩ := gd_r h
  refine gf_X5_38 E hW g1 dX5_number_3 ?_
  refine lv_topi (fun x2 ex2 => ?_)
  have h := bnd_r ex2 h
  refine lv_istore_n (lv' := [(2, .int x2), (1, .int (0 : Int32)), (0, .ref (G.2.2.2 + q0))]) E.1 E.2.1 dX5_number_6 rfl hl (by decide) rfl (fun ls hl => ?_)
  refine L_X5_number_7 E hr hlk _ _ _ _ _ _ _ _ h hW (lv_sub hl [2, 1, 0] rfl)
set_option maxHeartbeats 4000000 in
set_option maxRecDepth 100000 in
theorem m_X5_isNumber {l : Launch} {G : GP} {sz : Nat} {q0 : Nat} {σ σ0 : St} {r0 : Int32} (h : f_X5_isNumber q0 σ = some (r0, σ0)) : Met l yX5_isNumber [.code yX5_isNumber cX5_isNumber 1 (some .boolean)] ({ frames := 0, cells := 0, slots := 0, locals := 0 } : Room) (va_Pc [.ref (G.2.2.2 + q0)] (PreC G skC sz σ)) (QO (PoC G skC σ0) (Aw G.2.2.2 skC.1 sz) (some (.int r0))) 0 0 (Aw G.2.2.2 skC.1 sz) := by
  refine mkMet (by decide +kernel) (Nat.le_of_ble_eq_true rfl) skC_ok ?_
  intro p e s m below meth c ls E hW hl hr hlk
  have hl : lv_has ls 1 [(0, .ref (G.2.2.2 + q0))] := hl
  generalize Aw G.2.2.2 skC.1 s.heap.size = A0 at E hW ⊢
  generalize ([.ref (G.2.2.2 + q0)] : List Value).toArray = args
  unfold f_X5_isNumber at h
  refine lv_aload_n E.1 E.2.1 dX5_isNumber_0 rfl (lv_at hl 0 rfl) ?_
  obtain ⟨g1, h⟩ := gd_r h
  refine gf_X5_44 E hW g1 dX5_isNumber_1 ?_
  refine lv_bipush (v := (48 : Int32)) E.1 E.2.1 dX5_isNumber_4 (by decide) ?_
  refine lv_icmp_lt (tgt := 22) E.1 E.2.1 dX5_isNumber_6 (by decide) (fun g => ?_) (fun g => ?_)
  · have h := ifp h g
    refine lv_iconst (v := (0 : Int32)) E.1 E.2.1 dX5_isNumber_22 (by decide) ?_
    exact e_z E hW hr hlk (by decide) h dX5_isNumber_23
  · have h := ifn h g
    refine lv_aload_n E.1 E.2.1 dX5_isNumber_9 rfl (lv_at hl 0 rfl) ?_
    refine gf_X5_44 E hW g1 dX5_isNumber_10 ?_
    refine lv_bipush (v := (57 : Int32)) E.1 E.2.1 dX5_isNumber_13 (by decide) ?_
    refine lv_icmp_gt (tgt := 22) E.1 E.2.1 dX5_isNumber_15 (by decide) (fun g => ?_) (fun g => ?_)
    · have h := ifp h g
      refine lv_iconst (v := (0 : Int32)) E.1 E.2.1 dX5_isNumber_22 (by decide) ?_
      exact e_z E hW hr hlk (by decide) h dX5_isNumber_23
    · have h := ifn h g
      refine lv_iconst (v := (1 : Int32)) E.1 E.2.1 dX5_isNumber_18 (by decide) ?_
      refine lv_goto (tgt := 23) E.1 E.2.1 dX5_isNumber_19 (by decide) ?_
      exact e_z E hW hr hlk (by decide) h dX5_isNumber_23
set_option maxHeartbeats 4000000 in
set_option maxRecDepth 100000 in
theorem m_X4_checkNumber {l : Launch} {G : GP} {sz : Nat} {q0 : Nat} {σ σ0 : St} {r0 : Int32} (h : f_X4_checkNumber q0 σ = some (r0, σ0)) : Met l yX4_checkNumber [.code yX4_checkNumber cX4_checkNumber 1 (some .boolean)] ({ frames := 2, cells := 0, slots := 0, locals := 46 } : Room) (va_Pc [.ref (G.2.2.2 + q0)] (PreC G skC sz σ)) (QO (PoC G skC σ0) (Aw G.2.2.2 skC.1 sz) (some (.int r0))) 0 0 (Aw G.2.2.2 skC.1 sz) := by
  refine mkMet (by decide +kernel) (Nat.le_of_ble_eq_true rfl) skC_ok ?_
  intro p e s m below meth c ls E hW hl hr hlk
  have hl : lv_has ls 1 [(0, .ref (G.2.2.2 + q0))] := hl
  generalize Aw G.2.2.2 skC.1 s.heap.size = A0 at E hW ⊢
  generalize ([.ref (G.2.2.2 + q0)] : List Value).toArray = args
  unfold f_X4_checkNumber at h
  refine lv_aload_n E.1 E.2.1 dX4_checkNumber_0 rfl (lv_at hl 0 rfl) ?_
  obtain ⟨g1, h⟩ := gd_r h
  refine gf_X4_14 E hW g1 dX4_checkNumber_1 ?_
  obtain ⟨g2, h⟩ := gd_r h
  obtain ⟨x4, σ3, c5, h⟩ := obn_r h
  refine c_V (As := []) (rest := []) E hW (m_X5_isNumber c5) g2 rfl kw_540 wv_X5_isNumber yo_X5_isNumber ⟨rfl, rfl⟩ ⟨(Nat.le_of_ble_eq_true rfl), (Nat.le_of_ble_eq_true rfl)⟩ (lv_size hl) (Nat.le_of_ble_eq_true rfl) ⟨(Nat.le_of_ble_eq_true rfl), (Nat.le_of_ble_eq_true rfl)⟩ rfl dX4_checkNumber_4 (fun H locs hW => ?_)
  refine W.eq (g2 := F0 m 7 ls [.int x4]) rfl ?_
  refine lv_if_ne (tgt := 17) E.1 E.2.1 dX4_checkNumber_7 (by decide) (fun g => ?_) (fun g => ?_)
  · have h := ifn h g
    refine lv_aload_n E.1 E.2.1 dX4_checkNumber_17 rfl (lv_at hl 0 rfl) ?_
    refine gf_X4_14 E hW g1 dX4_checkNumber_18 ?_
    obtain ⟨x7, σ6, c8, h⟩ := obn_r h
    refine c_V (As := []) (rest := []) E hW (m_X5_number c8) g2 rfl kw_544 wv_X5_number yo_X5_number ⟨rfl, rfl⟩ ⟨(Nat.le_of_ble_eq_true rfl), (Nat.le_of_ble_eq_true rfl)⟩ (lv_size hl) (Nat.le_of_ble_eq_true rfl) ⟨(Nat.le_of_ble_eq_true rfl), (Nat.le_of_ble_eq_true rfl)⟩ rfl dX4_checkNumber_21 (fun H locs hW => ?_)
    refine W.eq (g2 := F0 m 24 ls [.int x7]) rfl ?_
    refine lv_ldc (v := (100000 : Int32)) E.1 E.2.1 E.2.2.2.1 (E.wd kw_550) dX4_checkNumber_24 ?_
    refine lv_icmp_le (tgt := 38) E.1 E.2.1 dX4_checkNumber_26 (by decide) (fun g => ?_) (fun g => ?_)
    · have h := ifp h g
      refine lv_iconst (v := (1 : Int32)) E.1 E.2.1 dX4_checkNumber_38 (by decide) ?_
      refine lv_goto (tgt := 43) E.1 E.2.1 dX4_checkNumber_39 (by decide) ?_
      exact e_z E hW hr hlk (by decide) h dX4_checkNumber_43
    · have h := ifn h g
      refine lv_aload_n E.1 E.2.1 dX4_checkNumber_29 rfl (lv_at hl 0 rfl) ?_
      refine lv_bipush (v := (-3 : Int32)) E.1 E.2.1 dX4_checkNumber_30 (by decide) ?_
      obtain ⟨x10, σ9, c11, h⟩ := obn_r h
      refine c_V (As := [.int (-3 : Int32)]) (rest := []) E hW (m_X4_fail c11) g1 rfl kw_417 wv_X4_fail yo_X4_fail ⟨rfl, rfl⟩ ⟨(Nat.le_of_ble_eq_true rfl), (Nat.le_of_ble_eq_true rfl)⟩ (lv_size hl) (Nat.le_of_ble_eq_true rfl) ⟨(Nat.le_of_ble_eq_true rfl), (Nat.le_of_ble_eq_true rfl)⟩ rfl dX4_checkNumber_32 (fun H locs hW => ?_)
      refine W.eq (g2 := F0 m 35 ls [.int x10]) rfl ?_
      refine lv_if_eq (tgt := 42) E.1 E.2.1 dX4_checkNumber_35 (by decide) (fun g => ?_) (fun g => ?_)
      · have h := ifp h g
        refine lv_iconst (v := (0 : Int32)) E.1 E.2.1 dX4_checkNumber_42 (by decide) ?_
        exact e_z E hW hr hlk (by decide) h dX4_checkNumber_43
      · have h := ifn h g
        refine lv_iconst (v := (1 : Int32)) E.1 E.2.1 dX4_checkNumber_38 (by decide) ?_
        refine lv_goto (tgt := 43) E.1 E.2.1 dX4_checkNumber_39 (by decide) ?_
        exact e_z E hW hr hlk (by decide) h dX4_checkNumber_43
  · have h := ifp h g
    refine lv_aload_n E.1 E.2.1 dX4_checkNumber_10 rfl (lv_at hl 0 rfl) ?_
    refine lv_bipush (v := (-2 : Int32)) E.1 E.2.1 dX4_checkNumber_11 (by decide) ?_
    obtain ⟨x13, σ12, c14, h⟩ := obn_r h
    refine c_V (As := [.int (-2 : Int32)]) (rest := []) E hW (m_X4_fail c14) g1 rfl kw_417 wv_X4_fail yo_X4_fail ⟨rfl, rfl⟩ ⟨(Nat.le_of_ble_eq_true rfl), (Nat.le_of_ble_eq_true rfl)⟩ (lv_size hl) (Nat.le_of_ble_eq_true rfl) ⟨(Nat.le_of_ble_eq_true rfl), (Nat.le_of_ble_eq_true rfl)⟩ rfl dX4_checkNumber_13 (fun H locs hW => ?_)
    refine W.eq (g2 := F0 m 16 ls [.int x13]) rfl ?_
    obtain ⟨g15, h⟩ := gd_r h
    exact e_z E hW hr hlk g15 h dX4_checkNumber_16
set_option maxHeartbeats 4000000 in
set_option maxRecDepth 100000 in
theorem m_X4_readConstant {l : Launch} {G : GP} {sz : Nat} {q0 : Nat} {q1 : Nat} {σ σ0 : St} {r0 : Int32} (h : f_X4_readConstant q0 q1 σ = some (r0, σ0)) : Met l yX4_readConstant [.code yX4_readConstant cX4_readConstant 2 (some .boolean)] ({ frames := 3, cells := 0, slots := 0, locals := 66 } : Room) (va_Pc [.ref (G.2.2.2 + q0), .ref (G.2.2.2 + q1)] (PreC G skC sz σ)) (QO (PoC G skC σ0) (Aw G.2.2.2 skC.1 sz) (some (.int r0))) 0 0 (Aw G.2.2.2 skC.1 sz) := by
  refine mkMet (by decide +kernel) (Nat.le_of_ble_eq_true rfl) skC_ok ?_
  intro p e s m below meth c ls E hW hl hr hlk
  have hl : lv_has ls 2 [(0, .ref (G.2.2.2 + q0)), (1, .ref (G.2.2.2 + q1))] := hl
  generalize Aw G.2.2.2 skC.1 s.heap.size = A0 at E hW ⊢
  generalize ([.ref (G.2.2.2 + q0), .ref (G.2.2.2 + q1)] : List Value).toArray = args
  unfold f_X4_readConstant at h
  refine lv_aload_n E.1 E.2.1 dX4_readConstant_0 rfl (lv_at hl 0 rfl) ?_
  obtain ⟨g1, h⟩ := gd_r h
  obtain ⟨x3, σ2, c4, h⟩ := obn_r h
  refine c_V (As := []) (rest := []) E hW (m_X4_checkNumber c4) g1 rfl kw_536 wv_X4_checkNumber yo_X4_checkNumber ⟨rfl, rfl⟩ ⟨(Nat.le_of_ble_eq_true rfl), (Nat.le_of_ble_eq_true rfl)⟩ (lv_size hl) (Nat.le_of_ble_eq_true rfl) ⟨(Nat.le_of_ble_eq_true rfl), (Nat.le_of_ble_eq_true rfl)⟩ rfl dX4_readConstant_1 (fun H locs hW => ?_)
  refine W.eq (g2 := F0 m 4 ls [.int x3]) rfl ?_
  refine lv_if_ne (tgt := 9) E.1 E.2.1 dX4_readConstant_4 (by decide) (fun g => ?_) (fun g => ?_)
  · have h := ifn h g
    refine lv_aload_n E.1 E.2.1 dX4_readConstant_9 rfl (lv_at hl 1 rfl) ?_
    refine lv_aload_n E.1 E.2.1 dX4_readConstant_10 rfl (lv_at hl 0 rfl) ?_
    refine gf_X4_14 E hW g1 dX4_readConstant_11 ?_
    obtain ⟨g5, h⟩ := gd_r h
    obtain ⟨x7, σ6, c8, h⟩ := obn_r h
    refine c_V (As := []) (rest := [.ref (G.2.2.2 + q1)]) E hW (m_X5_number c8) g5 rfl kw_544 wv_X5_number yo_X5_number ⟨rfl, rfl⟩ ⟨(Nat.le_of_ble_eq_true rfl), (Nat.le_of_ble_eq_true rfl)⟩ (lv_size hl) (Nat.le_of_ble_eq_true rfl) ⟨(Nat.le_of_ble_eq_true rfl), (Nat.le_of_ble_eq_true rfl)⟩ rfl dX4_readConstant_14 (fun H locs hW => ?_)
    refine W.eq (g2 := F0 m 17 ls [.int x7, .ref (G.2.2.2 + q1)]) rfl ?_
    refine lv_i2l E.1 E.2.1 dX4_readConstant_17 rfl ?_
    obtain ⟨g9, h⟩ := gd_r h
    obtain ⟨_r, σ10, c11, h⟩ := obn_r h
    refine c_V (As := [.long x7.toInt64]) (rest := []) E hW (m_X2_becomeConstant c11) g9 rfl kw_551 wv_X2_becomeConstant yo_X2_becomeConstant ⟨rfl, rfl⟩ ⟨(Nat.le_of_ble_eq_true rfl), (Nat.le_of_ble_eq_true rfl)⟩ (lv_size hl) (Nat.le_of_ble_eq_true rfl) ⟨(Nat.le_of_ble_eq_true rfl), (Nat.le_of_ble_eq_true rfl)⟩ rfl dX4_readConstant_18 (fun H locs hW => ?_)
    refine W.eq (g2 := F0 m 21 ls []) rfl ?_
    refine lv_aload_n E.1 E.2.1 dX4_readConstant_21 rfl (lv_at hl 0 rfl) ?_
    refine gf_X4_14 E hW g1 dX4_readConstant_22 ?_
    obtain ⟨_r, σ12, c13, h⟩ := obn_r h
    refine c_V (As := []) (rest := []) E hW (m_X5_advance c13) g5 rfl kw_421 wv_X5_advance yo_X5_advance ⟨rfl, rfl⟩ ⟨(Nat.le_of_ble_eq_true rfl), (Nat.le_of_ble_eq_true rfl)⟩ (lv_size hl) (Nat.le_of_ble_eq_true rfl) ⟨(Nat.le_of_ble_eq_true rfl), (Nat.le_of_ble_eq_true rfl)⟩ rfl dX4_readConstant_25 (fun H locs hW => ?_)
    refine W.eq (g2 := F0 m 28 ls []) rfl ?_
    refine lv_iconst (v := (1 : Int32)) E.1 E.2.1 dX4_readConstant_28 (by decide) ?_
    exact e_z E hW hr hlk (by decide) h dX4_readConstant_29
  · have h := ifp h g
    refine lv_iconst (v := (0 : Int32)) E.1 E.2.1 dX4_readConstant_7 (by decide) ?_
    exact e_z E hW hr hlk (by decide) h dX4_readConstant_8
set_option maxHeartbeats 4000000 in
set_option maxRecDepth 100000 in
theorem m_X4_readParenthesis {rc : Nat → Int32 → St → Option (Int32 × St)} {rf rl : Nat} {l : Launch} {G : GP} {sz : Nat} {q0 : Nat} {a1 : Int32} {σ σ0 : St} {r0 : Int32} (hrc : ∀ {sz q : Nat} {a0 : Int32} {σ σ0 : St} {r0 : Int32}, rc q a0 σ = some (r0, σ0) → Met l yX4_readSum [.code yX4_readSum cX4_readSum 6 (some .boolean)] ({ frames := rf, cells := 0, slots := 0, locals := rl } : Room) (va_Pc [.ref (G.2.2.2 + q), .int a0] (PreC G skC sz σ)) (QO (PoC G skC σ0) (Aw G.2.2.2 skC.1 sz) (some (.int r0))) 0 0 (Aw G.2.2.2 skC.1 sz)) (h : f_X4_readParenthesis rc q0 a1 σ = some (r0, σ0)) : Met l yX4_readParenthesis [.code yX4_readParenthesis cX4_readParenthesis 2 (some .boolean)] ({ frames := rf + 2, cells := 0, slots := 0, locals := rl + 81 } : Room) (va_Pc [.ref (G.2.2.2 + q0), .int a1] (PreC G skC sz σ)) (QO (PoC G skC σ0) (Aw G.2.2.2 skC.1 sz) (some (.int r0))) 0 0 (Aw G.2.2.2 skC.1 sz) := by
  refine mkMet (by decide +kernel) (Nat.le_of_ble_eq_true rfl) skC_ok ?_
  intro p e s m below meth c ls E hW hl hr hlk
  have hl : lv_has ls 2 [(0, .ref (G.2.2.2 + q0)), (1, .int a1)] := hl
  generalize Aw G.2.2.2 skC.1 s.heap.size = A0 at E hW ⊢
  generalize ([.ref (G.2.2.2 + q0), .int a1] : List Value).toArray = args
  unfold f_X4_readParenthesis at h
  refine lv_aload_n E.1 E.2.1 dX4_readParenthesis_0 rfl (lv_at hl 0 rfl) ?_
  refine lv_bipush (v := (40 : Int32)) E.1 E.2.1 dX4_readParenthesis_1 (by decide) ?_
  refine lv_iload_n E.1 E.2.1 dX4_readParenthesis_3 rfl (lv_at hl 1 rfl) ?_
  obtain ⟨g1, h⟩ := gd_r h
  obtain ⟨x3, σ2, c4, h⟩ := obn_r h
  refine c_V (As := [.int (40 : Int32), .int a1]) (rest := []) E hW (m_X4_open c4) g1 rfl kw_466 wv_X4_open yo_X4_open ⟨rfl, rfl⟩ ⟨by dsimp only; omega, by dsimp only; omega⟩ (lv_size hl) (Nat.le_of_ble_eq_true rfl) ⟨(Nat.le_of_ble_eq_true rfl), (Nat.le_of_ble_eq_true rfl)⟩ rfl dX4_readParenthesis_4 (fun H locs hW => ?_)
  refine W.eq (g2 := F0 m 7 ls [.int x3]) rfl ?_
  refine lv_if_eq (tgt := 29) E.1 E.2.1 dX4_readParenthesis_7 (by decide) (fun g => ?_) (fun g => ?_)
  · have h := ifp h g
    refine lv_iconst (v := (0 : Int32)) E.1 E.2.1 dX4_readParenthesis_29 (by decide) ?_
    exact e_z E hW hr hlk (by decide) h dX4_readParenthesis_30
  · have h := ifn h g
    refine lv_aload_n E.1 E.2.1 dX4_readParenthesis_10 rfl (lv_at hl 0 rfl) ?_
    refine lv_iload_n E.1 E.2.1 dX4_readParenthesis_11 rfl (lv_at hl 1 rfl) ?_
    refine lv_iconst (v := (1 : Int32)) E.1 E.2.1 dX4_readParenthesis_12 (by decide) ?_
    refine lv_iadd E.1 E.2.1 dX4_readParenthesis_13 ?_
    obtain ⟨x6, σ5, c7, h⟩ := obn_r h
    refine c_V (As := [.int (a1 + (1 : Int32))]) (rest := []) E hW (hrc c7) g1 rfl kw_430 wv_X4_readSum yo_X4_readSum ⟨rfl, rfl⟩ ⟨by dsimp only; omega, by dsimp only; omega⟩ (lv_size hl) (Nat.le_of_ble_eq_true rfl) ⟨(Nat.le_of_ble_eq_true rfl), (Nat.le_of_ble_eq_true rfl)⟩ rfl dX4_readParenthesis_14 (fun H locs hW => ?_)
    refine W.eq (g2 := F0 m 17 ls [.int x6]) rfl ?_
    refine lv_if_eq (tgt := 29) E.1 E.2.1 dX4_readParenthesis_17 (by decide) (fun g => ?_) (fun g => ?_)
    · have h := ifp h g
      refine lv_iconst (v := (0 : Int32)) E.1 E.2.1 dX4_readParenthesis_29 (by decide) ?_
      exact e_z E hW hr hlk (by decide) h dX4_readParenthesis_30
    · have h := ifn h g
      refine lv_aload_n E.1 E.2.1 dX4_readParenthesis_20 rfl (lv_at hl 0 rfl) ?_
      refine lv_bipush (v := (41 : Int32)) E.1 E.2.1 dX4_readParenthesis_21 (by decide) ?_
      obtain ⟨x9, σ8, c10, h⟩ := obn_r h
      refine c_V (As := [.int (41 : Int32)]) (rest := []) E hW (m_X4_take c10) g1 rfl kw_422 wv_X4_take yo_X4_take ⟨rfl, rfl⟩ ⟨by dsimp only; omega, by dsimp only; omega⟩ (lv_size hl) (Nat.le_of_ble_eq_true rfl) ⟨(Nat.le_of_ble_eq_true rfl), (Nat.le_of_ble_eq_true rfl)⟩ rfl dX4_readParenthesis_23 (fun H locs hW => ?_)
      refine W.eq (g2 := F0 m 26 ls [.int x9]) rfl ?_
      refine lv_if_ne (tgt := 31) E.1 E.2.1 dX4_readParenthesis_26 (by decide) (fun g => ?_) (fun g => ?_)
      · have h := ifn h g
        refine lv_aload_n E.1 E.2.1 dX4_readParenthesis_31 rfl (lv_at hl 0 rfl) ?_
        refine gf_X4_44 E hW g1 dX4_readParenthesis_32 ?_
        refine lv_iload_n E.1 E.2.1 dX4_readParenthesis_35 rfl (lv_at hl 1 rfl) ?_
        obtain ⟨g11, h⟩ := gd_r h
        refine r_aald (t := 0) (ty := .object "TaylorModels$Model") E hW (pr_eq g11.1) g11.2 rfl rfl (by decide) dX4_readParenthesis_36 ?_
        refine lv_aload_n E.1 E.2.1 dX4_readParenthesis_37 rfl (lv_at hl 0 rfl) ?_
        refine gf_X4_34 E hW g1 dX4_readParenthesis_38 ?_
        refine lv_iload_n E.1 E.2.1 dX4_readParenthesis_41 rfl (lv_at hl 1 rfl) ?_
        refine lv_iconst (v := (1 : Int32)) E.1 E.2.1 dX4_readParenthesis_42 (by decide) ?_
        refine lv_iadd E.1 E.2.1 dX4_readParenthesis_43 ?_
        obtain ⟨g12, h⟩ := gd_r h
        refine r_aald (t := 0) (ty := .object "TaylorModels$Model") E hW (pr_eq g12.1) g12.2 rfl rfl (by decide) dX4_readParenthesis_44 ?_
        obtain ⟨g13, h⟩ := gd_r h
        obtain ⟨_r, σ14, c15, h⟩ := obn_r h
        refine c_V (As := [.ref (G.2.2.2 + (rC (rC q0 3) (a1 + (1 : Int32)).toNatClampNeg))]) (rest := []) E hW (m_X2_copyFrom c15) g13 rfl kw_470 wv_X2_copyFrom yo_X2_copyFrom ⟨rfl, rfl⟩ ⟨by dsimp only; omega, by dsimp only; omega⟩ (lv_size hl) (Nat.le_of_ble_eq_true rfl) ⟨(Nat.le_of_ble_eq_true rfl), (Nat.le_of_ble_eq_true rfl)⟩ rfl dX4_readParenthesis_45 (fun H locs hW => ?_)
        refine W.eq (g2 := F0 m 48 ls []) rfl ?_
        refine lv_iconst (v := (1 : Int32)) E.1 E.2.1 dX4_readParenthesis_48 (by decide) ?_
        exact e_z E hW hr hlk (by decide) h dX4_readParenthesis_49
      · have h := ifp h g
        refine lv_iconst (v := (0 : Int32)) E.1 E.2.1 dX4_readParenthesis_29 (by decide) ?_
        exact e_z E hW hr hlk (by decide) h dX4_readParenthesis_30
set_option maxHeartbeats 4000000 in
set_option maxRecDepth 100000 in
theorem m_X4_readBrackets {rc : Nat → Int32 → St → Option (Int32 × St)} {rf rl : Nat} {l : Launch} {G : GP} {sz : Nat} {q0 : Nat} {a1 : Int32} {σ σ0 : St} {r0 : Int32} (hrc : ∀ {sz q : Nat} {a0 : Int32} {σ σ0 : St} {r0 : Int32}, rc q a0 σ = some (r0, σ0) → Met l yX4_readSum [.code yX4_readSum cX4_readSum 6 (some .boolean)] ({ frames := rf, cells := 0, slots := 0, locals := rl } : Room) (va_Pc [.ref (G.2.2.2 + q), .int a0] (PreC G skC sz σ)) (QO (PoC G skC σ0) (Aw G.2.2.2 skC.1 sz) (some (.int r0))) 0 0 (Aw G.2.2.2 skC.1 sz)) (h : f_X4_readBrackets rc q0 a1 σ = some (r0, σ0)) : Met l yX4_readBrackets [.code yX4_readBrackets cX4_readBrackets 2 (some .boolean)] ({ frames := rf + 2, cells := 0, slots := 0, locals := rl + 81 } : Room) (va_Pc [.ref (G.2.2.2 + q0), .int a1] (PreC G skC sz σ)) (QO (PoC G skC σ0) (Aw G.2.2.2 skC.1 sz) (some (.int r0))) 0 0 (Aw G.2.2.2 skC.1 sz) := by
  refine mkMet (by decide +kernel) (Nat.le_of_ble_eq_true rfl) skC_ok ?_
  intro p e s m below meth c ls E hW hl hr hlk
  have hl : lv_has ls 2 [(0, .ref (G.2.2.2 + q0)), (1, .int a1)] := hl
  generalize Aw G.2.2.2 skC.1 s.heap.size = A0 at E hW ⊢
  generalize ([.ref (G.2.2.2 + q0), .int a1] : List Value).toArray = args
  unfold f_X4_readBrackets at h
  refine lv_aload_n E.1 E.2.1 dX4_readBrackets_0 rfl (lv_at hl 0 rfl) ?_
  refine lv_bipush (v := (91 : Int32)) E.1 E.2.1 dX4_readBrackets_1 (by decide) ?_
  refine lv_iload_n E.1 E.2.1 dX4_readBrackets_3 rfl (lv_at hl 1 rfl) ?_
  obtain ⟨g1, h⟩ := gd_r h
  obtain ⟨x3, σ2, c4, h⟩ := obn_r h
  refine c_V (As := [.int (91 : Int32), .int a1]) (rest := []) E hW (m_X4_open c4) g1 rfl kw_466 wv_X4_open yo_X4_open ⟨rfl, rfl⟩ ⟨by dsimp only; omega, by dsimp only; omega⟩ (lv_size hl) (Nat.le_of_ble_eq_true rfl) ⟨(Nat.le_of_ble_eq_true rfl), (Nat.le_of_ble_eq_true rfl)⟩ rfl dX4_readBrackets_4 (fun H locs hW => ?_)
  refine W.eq (g2 := F0 m 7 ls [.int x3]) rfl ?_
  refine lv_if_eq (tgt := 29) E.1 E.2.1 dX4_readBrackets_7 (by decide) (fun g => ?_) (fun g => ?_)
  · have h := ifp h g
    refine lv_iconst (v := (0 : Int32)) E.1 E.2.1 dX4_readBrackets_29 (by decide) ?_
    exact e_z E hW hr hlk (by decide) h dX4_readBrackets_30
  · have h := ifn h g
    refine lv_aload_n E.1 E.2.1 dX4_readBrackets_10 rfl (lv_at hl 0 rfl) ?_
    refine lv_iload_n E.1 E.2.1 dX4_readBrackets_11 rfl (lv_at hl 1 rfl) ?_
    refine lv_iconst (v := (1 : Int32)) E.1 E.2.1 dX4_readBrackets_12 (by decide) ?_
    refine lv_iadd E.1 E.2.1 dX4_readBrackets_13 ?_
    obtain ⟨x6, σ5, c7, h⟩ := obn_r h
    refine c_V (As := [.int (a1 + (1 : Int32))]) (rest := []) E hW (hrc c7) g1 rfl kw_430 wv_X4_readSum yo_X4_readSum ⟨rfl, rfl⟩ ⟨by dsimp only; omega, by dsimp only; omega⟩ (lv_size hl) (Nat.le_of_ble_eq_true rfl) ⟨(Nat.le_of_ble_eq_true rfl), (Nat.le_of_ble_eq_true rfl)⟩ rfl dX4_readBrackets_14 (fun H locs hW => ?_)
    refine W.eq (g2 := F0 m 17 ls [.int x6]) rfl ?_
    refine lv_if_eq (tgt := 29) E.1 E.2.1 dX4_readBrackets_17 (by decide) (fun g => ?_) (fun g => ?_)
    · have h := ifp h g
      refine lv_iconst (v := (0 : Int32)) E.1 E.2.1 dX4_readBrackets_29 (by decide) ?_
      exact e_z E hW hr hlk (by decide) h dX4_readBrackets_30
    · have h := ifn h g
      refine lv_aload_n E.1 E.2.1 dX4_readBrackets_20 rfl (lv_at hl 0 rfl) ?_
      refine lv_bipush (v := (44 : Int32)) E.1 E.2.1 dX4_readBrackets_21 (by decide) ?_
      obtain ⟨x9, σ8, c10, h⟩ := obn_r h
      refine c_V (As := [.int (44 : Int32)]) (rest := []) E hW (m_X4_take c10) g1 rfl kw_422 wv_X4_take yo_X4_take ⟨rfl, rfl⟩ ⟨by dsimp only; omega, by dsimp only; omega⟩ (lv_size hl) (Nat.le_of_ble_eq_true rfl) ⟨(Nat.le_of_ble_eq_true rfl), (Nat.le_of_ble_eq_true rfl)⟩ rfl dX4_readBrackets_23 (fun H locs hW => ?_)
      refine W.eq (g2 := F0 m 26 ls [.int x9]) rfl ?_
      refine lv_if_ne (tgt := 31) E.1 E.2.1 dX4_readBrackets_26 (by decide) (fun g => ?_) (fun g => ?_)
      · have h := ifn h g
        refine lv_aload_n E.1 E.2.1 dX4_readBrackets_31 rfl (lv_at hl 0 rfl) ?_
        refine gf_X4_44 E hW g1 dX4_readBrackets_32 ?_
        refine lv_iload_n E.1 E.2.1 dX4_readBrackets_35 rfl (lv_at hl 1 rfl) ?_
        obtain ⟨g11, h⟩ := gd_r h
        refine r_aald (t := 0) (ty := .object "TaylorModels$Model") E hW (pr_eq g11.1) g11.2 rfl rfl (by decide) dX4_readBrackets_36 ?_
        refine lv_aload_n E.1 E.2.1 dX4_readBrackets_37 rfl (lv_at hl 0 rfl) ?_
        refine gf_X4_34 E hW g1 dX4_readBrackets_38 ?_
        refine lv_iload_n E.1 E.2.1 dX4_readBrackets_41 rfl (lv_at hl 1 rfl) ?_
        refine lv_iconst (v := (1 : Int32)) E.1 E.2.1 dX4_readBrackets_42 (by decide) ?_
        refine lv_iadd E.1 E.2.1 dX4_readBrackets_43 ?_
        obtain ⟨g12, h⟩ := gd_r h
        refine r_aald (t := 0) (ty := .object "TaylorModels$Model") E hW (pr_eq g12.1) g12.2 rfl rfl (by decide) dX4_readBrackets_44 ?_
        obtain ⟨g13, h⟩ := gd_r h
        obtain ⟨_r, σ14, c15, h⟩ := obn_r h
        refine c_V (As := [.ref (G.2.2.2 + (rC (rC q0 3) (a1 + (1 : Int32)).toNatClampNeg))]) (rest := []) E hW (m_X2_copyFrom c15) g13 rfl kw_470 wv_X2_copyFrom yo_X2_copyFrom ⟨rfl, rfl⟩ ⟨by dsimp only; omega, by dsimp only; omega⟩ (lv_size hl) (Nat.le_of_ble_eq_true rfl) ⟨(Nat.le_of_ble_eq_true rfl), (Nat.le_of_ble_eq_true rfl)⟩ rfl dX4_readBrackets_45 (fun H locs hW => ?_)
        refine W.eq (g2 := F0 m 48 ls []) rfl ?_
        refine lv_aload_n E.1 E.2.1 dX4_readBrackets_48 rfl (lv_at hl 0 rfl) ?_
        refine lv_iload_n E.1 E.2.1 dX4_readBrackets_49 rfl (lv_at hl 1 rfl) ?_
        refine lv_iconst (v := (1 : Int32)) E.1 E.2.1 dX4_readBrackets_50 (by decide) ?_
        refine lv_iadd E.1 E.2.1 dX4_readBrackets_51 ?_
        obtain ⟨x17, σ16, c18, h⟩ := obn_r h
        refine c_V (As := [.int (a1 + (1 : Int32))]) (rest := []) E hW (hrc c18) g1 rfl kw_430 wv_X4_readSum yo_X4_readSum ⟨rfl, rfl⟩ ⟨by dsimp only; omega, by dsimp only; omega⟩ (lv_size hl) (Nat.le_of_ble_eq_true rfl) ⟨(Nat.le_of_ble_eq_true rfl), (Nat.le_of_ble_eq_true rfl)⟩ rfl dX4_readBrackets_52 (fun H locs hW => ?_)
        refine W.eq (g2 := F0 m 55 ls [.int x17]) rfl ?_
        refine lv_if_eq (tgt := 71) E.1 E.2.1 dX4_readBrackets_55 (by decide) (fun g => ?_) (fun g => ?_)
        · have h := ifp h g
          refine lv_iconst (v := (0 : Int32)) E.1 E.2.1 dX4_readBrackets_71 (by decide) ?_
          exact e_z E hW hr hlk (by decide) h dX4_readBrackets_72
        · have h := ifn h g
          refine lv_aload_n E.1 E.2.1 dX4_readBrackets_58 rfl (lv_at hl 0 rfl) ?_
          refine lv_bipush (v := (93 : Int32)) E.1 E.2.1 dX4_readBrackets_59 (by decide) ?_
          obtain ⟨x20, σ19, c21, h⟩ := obn_r h
          refine c_V (As := [.int (93 : Int32)]) (rest := []) E hW (m_X4_take c21) g1 rfl kw_422 wv_X4_take yo_X4_take ⟨rfl, rfl⟩ ⟨by dsimp only; omega, by dsimp only; omega⟩ (lv_size hl) (Nat.le_of_ble_eq_true rfl) ⟨(Nat.le_of_ble_eq_true rfl), (Nat.le_of_ble_eq_true rfl)⟩ rfl dX4_readBrackets_61 (fun H locs hW => ?_)
          refine W.eq (g2 := F0 m 64 ls [.int x20]) rfl ?_
          refine lv_if_eq (tgt := 71) E.1 E.2.1 dX4_readBrackets_64 (by decide) (fun g => ?_) (fun g => ?_)
          · have h := ifp h g
            refine lv_iconst (v := (0 : Int32)) E.1 E.2.1 dX4_readBrackets_71 (by decide) ?_
            exact e_z E hW hr hlk (by decide) h dX4_readBrackets_72
          · have h := ifn h g
            refine lv_iconst (v := (1 : Int32)) E.1 E.2.1 dX4_readBrackets_67 (by decide) ?_
            refine lv_goto (tgt := 72) E.1 E.2.1 dX4_readBrackets_68 (by decide) ?_
            exact e_z E hW hr hlk (by decide) h dX4_readBrackets_72
      · have h := ifp h g
        refine lv_iconst (v := (0 : Int32)) E.1 E.2.1 dX4_readBrackets_29 (by decide) ?_
        exact e_z E hW hr hlk (by decide) h dX4_readBrackets_30
set_option maxHeartbeats 4000000 in
set_option maxRecDepth 100000 in
theorem m_X4_readFactor {rc : Nat → Int32 → St → Option (Int32 × St)} {rf rl : Nat} {l : Launch} {G : GP} {sz : Nat} {q0 : Nat} {a1 : Int32} {σ σ0 : St} {r0 : Int32} (hrc : ∀ {sz q : Nat} {a0 : Int32} {σ σ0 : St} {r0 : Int32}, rc q a0 σ = some (r0, σ0) → Met l yX4_readSum [.code yX4_readSum cX4_readSum 6 (some .boolean)] ({ frames := rf, cells := 0, slots := 0, locals := rl } : Room) (va_Pc [.ref (G.2.2.2 + q), .int a0] (PreC G skC sz σ)) (QO (PoC G skC σ0) (Aw G.2.2.2 skC.1 sz) (some (.int r0))) 0 0 (Aw G.2.2.2 skC.1 sz)) (h : f_X4_readFactor rc q0 a1 σ = some (r0, σ0)) : Met l yX4_readFactor [.code yX4_readFactor cX4_readFactor 4 (some .boolean)] ({ frames := rf + 7, cells := 0, slots := 0, locals := rl + 222 } : Room) (va_Pc [.ref (G.2.2.2 + q0), .int a1] (PreC G skC sz σ)) (QO (PoC G skC σ0) (Aw G.2.2.2 skC.1 sz) (some (.int r0))) 0 0 (Aw G.2.2.2 skC.1 sz) := by
  refine mkMet (by decide +kernel) (Nat.le_of_ble_eq_true rfl) skC_ok ?_
  intro p e s m below meth c ls E hW hl hr hlk
  have hl : lv_has ls 4 [(0, .ref (G.2.2.2 + q0)), (1, .int a1)] := hl
  generalize Aw G.2.2.2 skC.1 s.heap.size = A0 at E hW ⊢
  generalize ([.ref (G.2.2.2 + q0), .int a1] : List Value).toArray = args
  unfold f_X4_readFactor at h
  refine lv_iload_n E.1 E.2.1 dX4_readFactor_0 rfl (lv_at hl 1 rfl) ?_
  obtain ⟨J3, eJ3, h⟩ := bnd_x h
  have hJ3 : ∀ (q2 : Nat) (σ1 : St) (H : Heap) (locs : List Loc) (ls : Array Slot), J3 q2 σ1 = some (r0, σ0) → Wo G skC A0 s σ1 H locs → lv_has ls 4 [(0, .ref (G.2.2.2 + q2))] → W p l e ({ frames := rf + 7, cells := 0, slots := 0, locals := rl + 222 } : Room) s m args below meth c H locs 0 0 (MQ below (QO (PoC G skC σ0) A0 (some (.int r0))) args s 0 0 A0) (F0 m 9 ls []) := by
    intro q2 σ1 H locs ls h hW hl
    have h := jr2 eJ3 h
    refine lv_aload_n E.1 E.2.1 dX4_readFactor_9 rfl (lv_at hl 0 rfl) ?_
    refine lv_bipush (v := (-6 : Int32)) E.1 E.2.1 dX4_readFactor_10 (by decide) ?_
    obtain ⟨g4, h⟩ := gd_r h
    obtain ⟨x6, σ5, c7, h⟩ := obn_r h
    refine c_V (As := [.int (-6 : Int32)]) (rest := []) E hW (m_X4_fail c7) g4 rfl kw_417 wv_X4_fail yo_X4_fail ⟨rfl, rfl⟩ ⟨by dsimp only; omega, by dsimp only; omega⟩ (lv_size hl) (Nat.le_of_ble_eq_true rfl) ⟨(Nat.le_of_ble_eq_true rfl), (Nat.le_of_ble_eq_true rfl)⟩ rfl dX4_readFactor_12 (fun H locs hW => ?_)
    refine W.eq (g2 := F0 m 15 ls [.int x6]) rfl ?_
    obtain ⟨g8, h⟩ := gd_r h
    exact e_z E hW hr hlk g8 h dX4_readFactor_15
  refine lv_if_lt (tgt := 9) E.1 E.2.1 dX4_readFactor_1 (by decide) (fun g => ?_) (fun g => ?_)
  · have h := ifp h g
    exact hJ3 _ _ _ _ _ h hW (lv_sub hl [0] rfl)
  · have h := ifn h g
    refine lv_iload_n E.1 E.2.1 dX4_readFactor_4 rfl (lv_at hl 1 rfl) ?_
    refine lv_iconst (v := (5 : Int32)) E.1 E.2.1 dX4_readFactor_5 (by decide) ?_
    refine lv_icmp_lt (tgt := 16) E.1 E.2.1 dX4_readFactor_6 (by decide) (fun g => ?_) (fun g => ?_)
    · have h := ifp h g
      refine lv_aload_n E.1 E.2.1 dX4_readFactor_16 rfl (lv_at hl 0 rfl) ?_
      obtain ⟨g9, h⟩ := gd_r h
      refine gf_X4_41 E hW g9 dX4_readFactor_17 ?_
      refine lv_iload_n E.1 E.2.1 dX4_readFactor_20 rfl (lv_at hl 1 rfl) ?_
      obtain ⟨g10, h⟩ := gd_r h
      refine r_aald (t := 0) (ty := .object "TaylorModels$Model") E hW (pr_eq g10.1) g10.2 rfl rfl (by decide) dX4_readFactor_21 ?_
      refine lv_astore_n (lv' := [(2, .ref (G.2.2.2 + (rC (rC q0 5) a1.toNatClampNeg))), (0, .ref (G.2.2.2 + q0)), (1, .int a1)]) E.1 E.2.1 dX4_readFactor_22 rfl hl (by decide) rfl (fun ls hl => ?_)
      refine lv_aload_n E.1 E.2.1 dX4_readFactor_23 rfl (lv_at hl 1 rfl) ?_
      refine gf_X4_14 E hW g9 dX4_readFactor_24 ?_
      refine r_ldcS E 1 (by decide) ⟨rfl, rfl⟩ dX4_readFactor_27 ?_
      obtain ⟨g11, h⟩ := gd_r h
      obtain ⟨x13, σ12, c14, h⟩ := obn_r h
      refine c_V (As := [.ref (G.2.2.1 1)]) (rest := []) E hW (m_X5_isWord c14) g11 rfl kw_365 wv_X5_isWord yo_X5_isWord ⟨rfl, rfl⟩ ⟨by dsimp only; omega, by dsimp only; omega⟩ (lv_size hl) (Nat.le_of_ble_eq_true rfl) ⟨(Nat.le_of_ble_eq_true rfl), (Nat.le_of_ble_eq_true rfl)⟩ rfl dX4_readFactor_29 (fun H locs hW => ?_)
      refine W.eq (g2 := F0 m 32 ls [.int x13]) rfl ?_
      obtain ⟨J18, eJ18, h⟩ := bnd_x h
      have hJ18 : ∀ (q16 : Nat) (q17 : Nat) (σ15 : St) (H : Heap) (locs : List Loc) (ls : Array Slot), J18 q16 q17 σ15 = some (r0, σ0) → Wo G skC A0 s σ15 H locs → lv_has ls 4 [(0, .ref (G.2.2.2 + q16)), (2, .ref (G.2.2.2 + q17))] → W p l e ({ frames := rf + 7, cells := 0, slots := 0, locals := rl + 222 } : Room) s m args below meth c H locs 0 0 (MQ below (QO (PoC G skC σ0) A0 (some (.int r0))) args s 0 0 A0) (F0 m 47 ls []) := by
        intro q16 q17 σ15 H locs ls h hW hl
        have h := jr3 eJ18 h
        refine lv_aload_n E.1 E.2.1 dX4_readFactor_47 rfl (lv_at hl 1 rfl) ?_
        refine lv_aload_n E.1 E.2.1 dX4_readFactor_48 rfl (lv_at hl 0 rfl) ?_
        obtain ⟨g19, h⟩ := gd_r h
        refine gf_X4_14 E hW g19 dX4_readFactor_49 ?_
        refine r_ldcS E 1 (by decide) ⟨rfl, rfl⟩ dX4_readFactor_52 ?_
        obtain ⟨g20, h⟩ := gd_r h
        obtain ⟨x22, σ21, c23, h⟩ := obn_r h
        refine c_V (As := [.ref (G.2.2.1 1)]) (rest := [.ref (G.2.2.2 + q17)]) E hW (m_X5_isWord c23) g20 rfl kw_365 wv_X5_isWord yo_X5_isWord ⟨rfl, rfl⟩ ⟨by dsimp only; omega, by dsimp only; omega⟩ (lv_size hl) (Nat.le_of_ble_eq_true rfl) ⟨(Nat.le_of_ble_eq_true rfl), (Nat.le_of_ble_eq_true rfl)⟩ rfl dX4_readFactor_54 (fun H locs hW => ?_)
        refine W.eq (g2 := F0 m 57 ls [.int x22, .ref (G.2.2.2 + q17)]) rfl ?_
        obtain ⟨J28, eJ28, h⟩ := bnd_x h
        have hJ28 : ∀ (q25 : Nat) (x26 : Int32) (q27 : Nat) (σ24 : St) (H : Heap) (locs : List Loc) (ls : Array Slot), J28 q25 x26 q27 σ24 = some (r0, σ0) → Wo G skC A0 s σ24 H locs → lv_has ls 4 [(0, .ref (G.2.2.2 + q25))] → W p l e ({ frames := rf + 7, cells := 0, slots := 0, locals := rl + 222 } : Room) s m args below meth c H locs 0 0 (MQ below (QO (PoC G skC σ0) A0 (some (.int r0))) args s 0 0 A0) (F0 m 65 ls [.int x26, .ref (G.2.2.2 + q27)]) := by
          intro q25 x26 q27 σ24 H locs ls h hW hl
          have h := jr4 eJ28 h
          obtain ⟨g29, h⟩ := gd_r h
          obtain ⟨_r, σ30, c31, h⟩ := obn_r h
          refine c_V (As := [.int x26]) (rest := []) E hW (m_X2_becomeVariable c31) g29 rfl kw_444 wv_X2_becomeVariable yo_X2_becomeVariable ⟨rfl, rfl⟩ ⟨by dsimp only; omega, by dsimp only; omega⟩ (lv_size hl) (Nat.le_of_ble_eq_true rfl) ⟨(Nat.le_of_ble_eq_true rfl), (Nat.le_of_ble_eq_true rfl)⟩ rfl dX4_readFactor_65 (fun H locs hW => ?_)
          refine W.eq (g2 := F0 m 68 ls []) rfl ?_
          refine lv_aload_n E.1 E.2.1 dX4_readFactor_68 rfl (lv_at hl 0 rfl) ?_
          obtain ⟨g32, h⟩ := gd_r h
          refine gf_X4_14 E hW g32 dX4_readFactor_69 ?_
          obtain ⟨g33, h⟩ := gd_r h
          obtain ⟨_r, σ34, c35, h⟩ := obn_r h
          refine c_V (As := []) (rest := []) E hW (m_X5_advance c35) g33 rfl kw_421 wv_X5_advance yo_X5_advance ⟨rfl, rfl⟩ ⟨by dsimp only; omega, by dsimp only; omega⟩ (lv_size hl) (Nat.le_of_ble_eq_true rfl) ⟨(Nat.le_of_ble_eq_true rfl), (Nat.le_of_ble_eq_true rfl)⟩ rfl dX4_readFactor_72 (fun H locs hW => ?_)
          refine W.eq (g2 := F0 m 75 ls []) rfl ?_
          refine lv_iconst (v := (1 : Int32)) E.1 E.2.1 dX4_readFactor_75 (by decide) ?_
          exact e_z E hW hr hlk (by decide) h dX4_readFactor_76
        refine lv_if_eq (tgt := 64) E.1 E.2.1 dX4_readFactor_57 (by decide) (fun g => ?_) (fun g => ?_)
        · have h := ifp h g
          refine lv_iconst (v := (1 : Int32)) E.1 E.2.1 dX4_readFactor_64 (by decide) ?_
          exact hJ28 _ _ _ _ _ _ _ h hW (lv_sub hl [0] rfl)
        · have h := ifn h g
          refine lv_iconst (v := (4 : Int32)) E.1 E.2.1 dX4_readFactor_60 (by decide) ?_
          refine lv_goto (tgt := 65) E.1 E.2.1 dX4_readFactor_61 (by decide) ?_
          exact hJ28 _ _ _ _ _ _ _ h hW (lv_sub hl [0] rfl)
      refine lv_if_ne (tgt := 47) E.1 E.2.1 dX4_readFactor_32 (by decide) (fun g => ?_) (fun g => ?_)
      · have h := ifn h g
        exact hJ18 _ _ _ _ _ _ h hW (lv_sub hl [1, 0] rfl)
      · have h := ifp h g
        refine lv_aload_n E.1 E.2.1 dX4_readFactor_35 rfl (lv_at hl 1 rfl) ?_
        refine gf_X4_14 E hW g9 dX4_readFactor_36 ?_
        refine r_ldcS E 2 (by decide) ⟨rfl, rfl⟩ dX4_readFactor_39 ?_
        obtain ⟨x37, σ36, c38, h⟩ := obn_r h
        refine c_V (As := [.ref (G.2.2.1 2)]) (rest := []) E hW (m_X5_isWord c38) g11 rfl kw_365 wv_X5_isWord yo_X5_isWord ⟨rfl, rfl⟩ ⟨by dsimp only; omega, by dsimp only; omega⟩ (lv_size hl) (Nat.le_of_ble_eq_true rfl) ⟨(Nat.le_of_ble_eq_true rfl), (Nat.le_of_ble_eq_true rfl)⟩ rfl dX4_readFactor_41 (fun H locs hW => ?_)
        refine W.eq (g2 := F0 m 44 ls [.int x37]) rfl ?_
        refine lv_if_eq (tgt := 77) E.1 E.2.1 dX4_readFactor_44 (by decide) (fun g => ?_) (fun g => ?_)
        · have h := ifp h g
          refine lv_aload_n E.1 E.2.1 dX4_readFactor_77 rfl (lv_at hl 1 rfl) ?_
          refine gf_X4_14 E hW g9 dX4_readFactor_78 ?_
          refine r_ldcS E 3 (by decide) ⟨rfl, rfl⟩ dX4_readFactor_81 ?_
          obtain ⟨x40, σ39, c41, h⟩ := obn_r h
          refine c_V (As := [.ref (G.2.2.1 3)]) (rest := []) E hW (m_X5_isWord c41) g11 rfl kw_365 wv_X5_isWord yo_X5_isWord ⟨rfl, rfl⟩ ⟨by dsimp only; omega, by dsimp only; omega⟩ (lv_size hl) (Nat.le_of_ble_eq_true rfl) ⟨(Nat.le_of_ble_eq_true rfl), (Nat.le_of_ble_eq_true rfl)⟩ rfl dX4_readFactor_83 (fun H locs hW => ?_)
          refine W.eq (g2 := F0 m 86 ls [.int x40]) rfl ?_
          obtain ⟨J46, eJ46, h⟩ := bnd_x h
          have hJ46 : ∀ (q43 : Nat) (x44 : Int32) (q45 : Nat) (σ42 : St) (H : Heap) (locs : List Loc) (ls : Array Slot), J46 q43 x44 q45 σ42 = some (r0, σ0) → Wo G skC A0 s σ42 H locs → lv_has ls 4 [(0, .ref (G.2.2.2 + q43)), (1, .int x44), (2, .ref (G.2.2.2 + q45))] → W p l e ({ frames := rf + 7, cells := 0, slots := 0, locals := rl + 222 } : Room) s m args below meth c H locs 0 0 (MQ below (QO (PoC G skC σ0) A0 (some (.int r0))) args s 0 0 A0) (F0 m 101 ls []) := by
            intro q43 x44 q45 σ42 H locs ls h hW hl
            have h := jr4 eJ46 h
            refine lv_aload_n E.1 E.2.1 dX4_readFactor_101 rfl (lv_at hl 0 rfl) ?_
            obtain ⟨g47, h⟩ := gd_r h
            refine gf_X4_14 E hW g47 dX4_readFactor_102 ?_
            refine r_ldcS E 3 (by decide) ⟨rfl, rfl⟩ dX4_readFactor_105 ?_
            obtain ⟨g48, h⟩ := gd_r h
            obtain ⟨x50, σ49, c51, h⟩ := obn_r h
            refine c_V (As := [.ref (G.2.2.1 3)]) (rest := []) E hW (m_X5_isWord c51) g48 rfl kw_365 wv_X5_isWord yo_X5_isWord ⟨rfl, rfl⟩ ⟨by dsimp only; omega, by dsimp only; omega⟩ (lv_size hl) (Nat.le_of_ble_eq_true rfl) ⟨(Nat.le_of_ble_eq_true rfl), (Nat.le_of_ble_eq_true rfl)⟩ rfl dX4_readFactor_107 (fun H locs hW => ?_)
            refine W.eq (g2 := F0 m 110 ls [.int x50]) rfl ?_
            obtain ⟨J57, eJ57, h⟩ := bnd_x h
            have hJ57 : ∀ (q53 : Nat) (x54 : Int32) (q55 : Nat) (x56 : Int32) (σ52 : St) (H : Heap) (locs : List Loc) (ls : Array Slot), J57 q53 x54 q55 x56 σ52 = some (r0, σ0) → Wo G skC A0 s σ52 H locs → lv_has ls 4 [(0, .ref (G.2.2.2 + q53)), (1, .int x54), (2, .ref (G.2.2.2 + q55))] → W p l e ({ frames := rf + 7, cells := 0, slots := 0, locals := rl + 222 } : Room) s m args below meth c H locs 0 0 (MQ below (QO (PoC G skC σ0) A0 (some (.int r0))) args s 0 0 A0) (F0 m 118 ls [.int x56]) := by
              intro q53 x54 q55 x56 σ52 H locs ls h hW hl
              have h := jr5 eJ57 h
              refine lv_istore_n (lv' := [(3, .int x56), (0, .ref (G.2.2.2 + q53)), (1, .int x54), (2, .ref (G.2.2.2 + q55))]) E.1 E.2.1 dX4_readFactor_118 rfl hl (by decide) rfl (fun ls hl => ?_)
              refine lv_aload_n E.1 E.2.1 dX4_readFactor_119 rfl (lv_at hl 1 rfl) ?_
              obtain ⟨g58, h⟩ := gd_r h
              refine gf_X4_14 E hW g58 dX4_readFactor_120 ?_
              obtain ⟨g59, h⟩ := gd_r h
              obtain ⟨_r, σ60, c61, h⟩ := obn_r h
              refine c_V (As := []) (rest := []) E hW (m_X5_advance c61) g59 rfl kw_421 wv_X5_advance yo_X5_advance ⟨rfl, rfl⟩ ⟨by dsimp only; omega, by dsimp only; omega⟩ (lv_size hl) (Nat.le_of_ble_eq_true rfl) ⟨(Nat.le_of_ble_eq_true rfl), (Nat.le_of_ble_eq_true rfl)⟩ rfl dX4_readFactor_123 (fun H locs hW => ?_)
              refine W.eq (g2 := F0 m 126 ls []) rfl ?_
              refine lv_aload_n E.1 E.2.1 dX4_readFactor_126 rfl (lv_at hl 1 rfl) ?_
              refine lv_iload_n E.1 E.2.1 dX4_readFactor_127 rfl (lv_at hl 2 rfl) ?_
              obtain ⟨x63, σ62, c64, h⟩ := obn_r h
              refine c_V (As := [.int x54]) (rest := []) E hW (m_X4_readParenthesis hrc c64) g58 rfl kw_462 wv_X4_readParenthesis yo_X4_readParenthesis ⟨rfl, rfl⟩ ⟨by dsimp only; omega, by dsimp only; omega⟩ (lv_size hl) (Nat.le_of_ble_eq_true rfl) ⟨(Nat.le_of_ble_eq_true rfl), (Nat.le_of_ble_eq_true rfl)⟩ rfl dX4_readFactor_128 (fun H locs hW => ?_)
              refine W.eq (g2 := F0 m 131 ls [.int x63]) rfl ?_
              refine lv_if_ne (tgt := 136) E.1 E.2.1 dX4_readFactor_131 (by decide) (fun g => ?_) (fun g => ?_)
              · have h := ifn h g
                refine lv_aload_n E.1 E.2.1 dX4_readFactor_136 rfl (lv_at hl 1 rfl) ?_
                refine gf_X4_28 E hW g58 dX4_readFactor_137 ?_
                refine lv_aload_n E.1 E.2.1 dX4_readFactor_140 rfl (lv_at hl 3 rfl) ?_
                refine lv_aload_n E.1 E.2.1 dX4_readFactor_141 rfl (lv_at hl 1 rfl) ?_
                refine gf_X4_44 E hW g58 dX4_readFactor_142 ?_
                refine lv_iload_n E.1 E.2.1 dX4_readFactor_145 rfl (lv_at hl 2 rfl) ?_
                obtain ⟨g65, h⟩ := gd_r h
                refine r_aald (t := 0) (ty := .object "TaylorModels$Model") E hW (pr_eq g65.1) g65.2 rfl rfl (by decide) dX4_readFactor_146 ?_
                refine lv_iload_n E.1 E.2.1 dX4_readFactor_147 rfl (lv_at hl 0 rfl) ?_
                obtain ⟨g66, h⟩ := gd_r h
                obtain ⟨x68, σ67, c69, h⟩ := obn_r h
                refine c_V (As := [.ref (G.2.2.2 + q55), .ref (G.2.2.2 + (rC (rC q53 6) x54.toNatClampNeg)), .int x56]) (rest := []) E hW (m_X0_integrateModel c69) g66 rfl kw_471 wv_X0_integrateModel yo_X0_integrateModel ⟨rfl, rfl⟩ ⟨by dsimp only; omega, by dsimp only; omega⟩ (lv_size hl) (Nat.le_of_ble_eq_true rfl) ⟨(Nat.le_of_ble_eq_true rfl), (Nat.le_of_ble_eq_true rfl)⟩ rfl dX4_readFactor_148 (fun H locs hW => ?_)
                refine W.eq (g2 := F0 m 151 ls [.int x68]) rfl ?_
                refine lv_if_ne (tgt := 163) E.1 E.2.1 dX4_readFactor_151 (by decide) (fun g => ?_) (fun g => ?_)
                · have h := ifn h g
                  refine lv_iconst (v := (1 : Int32)) E.1 E.2.1 dX4_readFactor_163 (by decide) ?_
                  refine lv_goto (tgt := 168) E.1 E.2.1 dX4_readFactor_164 (by decide) ?_
                  exact e_z E hW hr hlk (by decide) h dX4_readFactor_168
                · have h := ifp h g
                  refine lv_aload_n E.1 E.2.1 dX4_readFactor_154 rfl (lv_at hl 1 rfl) ?_
                  refine lv_bipush (v := (-5 : Int32)) E.1 E.2.1 dX4_readFactor_155 (by decide) ?_
                  obtain ⟨x71, σ70, c72, h⟩ := obn_r h
                  refine c_V (As := [.int (-5 : Int32)]) (rest := []) E hW (m_X4_fail c72) g58 rfl kw_417 wv_X4_fail yo_X4_fail ⟨rfl, rfl⟩ ⟨by dsimp only; omega, by dsimp only; omega⟩ (lv_size hl) (Nat.le_of_ble_eq_true rfl) ⟨(Nat.le_of_ble_eq_true rfl), (Nat.le_of_ble_eq_true rfl)⟩ rfl dX4_readFactor_157 (fun H locs hW => ?_)
                  refine W.eq (g2 := F0 m 160 ls [.int x71]) rfl ?_
                  refine lv_if_eq (tgt := 167) E.1 E.2.1 dX4_readFactor_160 (by decide) (fun g => ?_) (fun g => ?_)
                  · have h := ifp h g
                    refine lv_iconst (v := (0 : Int32)) E.1 E.2.1 dX4_readFactor_167 (by decide) ?_
                    exact e_z E hW hr hlk (by decide) h dX4_readFactor_168
                  · have h := ifn h g
                    refine lv_iconst (v := (1 : Int32)) E.1 E.2.1 dX4_readFactor_163 (by decide) ?_
                    refine lv_goto (tgt := 168) E.1 E.2.1 dX4_readFactor_164 (by decide) ?_
                    exact e_z E hW hr hlk (by decide) h dX4_readFactor_168
              · have h := ifp h g
                refine lv_iconst (v := (0 : Int32)) E.1 E.2.1 dX4_readFactor_134 (by decide) ?_
                exact e_z E hW hr hlk (by decide) h dX4_readFactor_135
            refine lv_if_eq (tgt := 117) E.1 E.2.1 dX4_readFactor_110 (by decide) (fun g => ?_) (fun g => ?_)
            · have h := ifp h g
              refine lv_iconst (v := (1 : Int32)) E.1 E.2.1 dX4_readFactor_117 (by decide) ?_
              exact hJ57 _ _ _ _ _ _ _ _ h hW (lv_sub hl [0, 1, 2] rfl)
            · have h := ifn h g
              refine lv_iconst (v := (0 : Int32)) E.1 E.2.1 dX4_readFactor_113 (by decide) ?_
              refine lv_goto (tgt := 118) E.1 E.2.1 dX4_readFactor_114 (by decide) ?_
              exact hJ57 _ _ _ _ _ _ _ _ h hW (lv_sub hl [0, 1, 2] rfl)
          refine lv_if_ne (tgt := 101) E.1 E.2.1 dX4_readFactor_86 (by decide) (fun g => ?_) (fun g => ?_)
          · have h := ifn h g
            exact hJ46 _ _ _ _ _ _ _ h hW (lv_sub hl [1, 2, 0] rfl)
          · have h := ifp h g
            refine lv_aload_n E.1 E.2.1 dX4_readFactor_89 rfl (lv_at hl 1 rfl) ?_
            refine gf_X4_14 E hW g9 dX4_readFactor_90 ?_
            refine r_ldcS E 4 (by decide) ⟨rfl, rfl⟩ dX4_readFactor_93 ?_
            obtain ⟨x74, σ73, c75, h⟩ := obn_r h
            refine c_V (As := [.ref (G.2.2.1 4)]) (rest := []) E hW (m_X5_isWord c75) g11 rfl kw_365 wv_X5_isWord yo_X5_isWord ⟨rfl, rfl⟩ ⟨by dsimp only; omega, by dsimp only; omega⟩ (lv_size hl) (Nat.le_of_ble_eq_true rfl) ⟨(Nat.le_of_ble_eq_true rfl), (Nat.le_of_ble_eq_true rfl)⟩ rfl dX4_readFactor_95 (fun H locs hW => ?_)
            refine W.eq (g2 := F0 m 98 ls [.int x74]) rfl ?_
            refine lv_if_eq (tgt := 169) E.1 E.2.1 dX4_readFactor_98 (by decide) (fun g => ?_) (fun g => ?_)
            · have h := ifp h g
              refine lv_aload_n E.1 E.2.1 dX4_readFactor_169 rfl (lv_at hl 1 rfl) ?_
              refine gf_X4_14 E hW g9 dX4_readFactor_170 ?_
              refine gf_X4_72 E hW g11 dX4_readFactor_173 ?_
              refine lv_bipush (v := (40 : Int32)) E.1 E.2.1 dX4_readFactor_176 (by decide) ?_
              refine lv_icmp_ne (tgt := 199) E.1 E.2.1 dX4_readFactor_178 (by decide) (fun g => ?_) (fun g => ?_)
              · have h := ifn h g
                refine lv_aload_n E.1 E.2.1 dX4_readFactor_199 rfl (lv_at hl 1 rfl) ?_
                refine gf_X4_14 E hW g9 dX4_readFactor_200 ?_
                obtain ⟨x77, σ76, c78, h⟩ := obn_r h
                refine c_V (As := []) (rest := []) E hW (m_X5_name c78) g11 rfl kw_426 wv_X5_name yo_X5_name ⟨rfl, rfl⟩ ⟨by dsimp only; omega, by dsimp only; omega⟩ (lv_size hl) (Nat.le_of_ble_eq_true rfl) ⟨(Nat.le_of_ble_eq_true rfl), (Nat.le_of_ble_eq_true rfl)⟩ rfl dX4_readFactor_203 (fun H locs hW => ?_)
                refine W.eq (g2 := F0 m 206 ls [.int x77]) rfl ?_
                refine lv_istore_n (lv' := [(3, .int x77), (2, .ref (G.2.2.2 + (rC (rC q0 5) a1.toNatClampNeg))), (0, .ref (G.2.2.2 + q0)), (1, .int a1)]) E.1 E.2.1 dX4_readFactor_206 rfl hl (by decide) rfl (fun ls hl => ?_)
                refine lv_iload_n E.1 E.2.1 dX4_readFactor_207 rfl (lv_at hl 0 rfl) ?_
                refine lv_if_ge (tgt := 217) E.1 E.2.1 dX4_readFactor_208 (by decide) (fun g => ?_) (fun g => ?_)
                · have h := ifp h g
                  refine lv_aload_n E.1 E.2.1 dX4_readFactor_217 rfl (lv_at hl 2 rfl) ?_
                  refine gf_X4_21 E hW g9 dX4_readFactor_218 ?_
                  refine lv_iload_n E.1 E.2.1 dX4_readFactor_221 rfl (lv_at hl 0 rfl) ?_
                  obtain ⟨g79, h⟩ := gd_r h
                  obtain ⟨x81, σ80, c82, h⟩ := obn_r h
                  refine c_V (As := [.int x77]) (rest := []) E hW (m_X3_has c82) g79 rfl kw_552 wv_X3_has yo_X3_has ⟨rfl, rfl⟩ ⟨by dsimp only; omega, by dsimp only; omega⟩ (lv_size hl) (Nat.le_of_ble_eq_true rfl) ⟨(Nat.le_of_ble_eq_true rfl), (Nat.le_of_ble_eq_true rfl)⟩ rfl dX4_readFactor_222 (fun H locs hW => ?_)
                  refine W.eq (g2 := F0 m 225 ls [.int x81]) rfl ?_
                  refine lv_if_ne (tgt := 235) E.1 E.2.1 dX4_readFactor_225 (by decide) (fun g => ?_) (fun g => ?_)
                  · have h := ifn h g
                    refine lv_aload_n E.1 E.2.1 dX4_readFactor_235 rfl (lv_at hl 2 rfl) ?_
                    refine gf_X4_14 E hW g9 dX4_readFactor_236 ?_
                    obtain ⟨_r, σ83, c84, h⟩ := obn_r h
                    refine c_V (As := []) (rest := []) E hW (m_X5_advance c84) g11 rfl kw_421 wv_X5_advance yo_X5_advance ⟨rfl, rfl⟩ ⟨by dsimp only; omega, by dsimp only; omega⟩ (lv_size hl) (Nat.le_of_ble_eq_true rfl) ⟨(Nat.le_of_ble_eq_true rfl), (Nat.le_of_ble_eq_true rfl)⟩ rfl dX4_readFactor_239 (fun H locs hW => ?_)
                    refine W.eq (g2 := F0 m 242 ls []) rfl ?_
                    refine lv_aload_n E.1 E.2.1 dX4_readFactor_242 rfl (lv_at hl 1 rfl) ?_
                    refine lv_aload_n E.1 E.2.1 dX4_readFactor_243 rfl (lv_at hl 2 rfl) ?_
                    refine gf_X4_21 E hW g9 dX4_readFactor_244 ?_
                    refine gf_X4_155 E hW g79 dX4_readFactor_247 ?_
                    refine lv_iload_n E.1 E.2.1 dX4_readFactor_250 rfl (lv_at hl 0 rfl) ?_
                    obtain ⟨g85, h⟩ := gd_r h
                    refine r_aald (t := 0) (ty := .object "TaylorModels$Model") E hW (pr_eq g85.1) g85.2 rfl rfl (by decide) dX4_readFactor_251 ?_
                    obtain ⟨g86, h⟩ := gd_r h
                    obtain ⟨_r, σ87, c88, h⟩ := obn_r h
                    refine c_V (As := [.ref (G.2.2.2 + (rC (rC (rC q0 1) 0) x77.toNatClampNeg))]) (rest := []) E hW (m_X2_copyFrom c88) g86 rfl kw_470 wv_X2_copyFrom yo_X2_copyFrom ⟨rfl, rfl⟩ ⟨by dsimp only; omega, by dsimp only; omega⟩ (lv_size hl) (Nat.le_of_ble_eq_true rfl) ⟨(Nat.le_of_ble_eq_true rfl), (Nat.le_of_ble_eq_true rfl)⟩ rfl dX4_readFactor_252 (fun H locs hW => ?_)
                    refine W.eq (g2 := F0 m 255 ls []) rfl ?_
                    refine lv_aload_n E.1 E.2.1 dX4_readFactor_255 rfl (lv_at hl 2 rfl) ?_
                    refine gf_X4_14 E hW g9 dX4_readFactor_256 ?_
                    refine gf_X4_72 E hW g11 dX4_readFactor_259 ?_
                    refine lv_bipush (v := (91 : Int32)) E.1 E.2.1 dX4_readFactor_262 (by decide) ?_
                    refine lv_icmp_eq (tgt := 269) E.1 E.2.1 dX4_readFactor_264 (by decide) (fun g => ?_) (fun g => ?_)
                    · have h := ifp h g
                      refine lv_aload_n E.1 E.2.1 dX4_readFactor_269 rfl (lv_at hl 2 rfl) ?_
                      refine lv_iload_n E.1 E.2.1 dX4_readFactor_270 rfl (lv_at hl 3 rfl) ?_
                      obtain ⟨x90, σ89, c91, h⟩ := obn_r h
                      refine c_V (As := [.int a1]) (rest := []) E hW (m_X4_readBrackets hrc c91) g9 rfl kw_553 wv_X4_readBrackets yo_X4_readBrackets ⟨rfl, rfl⟩ ⟨by dsimp only; omega, by dsimp only; omega⟩ (lv_size hl) (Nat.le_of_ble_eq_true rfl) ⟨(Nat.le_of_ble_eq_true rfl), (Nat.le_of_ble_eq_true rfl)⟩ rfl dX4_readFactor_271 (fun H locs hW => ?_)
                      refine W.eq (g2 := F0 m 274 ls [.int x90]) rfl ?_
                      refine lv_if_eq (tgt := 316) E.1 E.2.1 dX4_readFactor_274 (by decide) (fun g => ?_) (fun g => ?_)
                      · have h := ifp h g
                        refine lv_iconst (v := (0 : Int32)) E.1 E.2.1 dX4_readFactor_316 (by decide) ?_
                        exact e_z E hW hr hlk (by decide) h dX4_readFactor_317
                      · have h := ifn h g
                        refine lv_aload_n E.1 E.2.1 dX4_readFactor_277 rfl (lv_at hl 2 rfl) ?_
                        refine gf_X4_28 E hW g9 dX4_readFactor_278 ?_
                        refine lv_aload_n E.1 E.2.1 dX4_readFactor_281 rfl (lv_at hl 1 rfl) ?_
                        refine lv_aload_n E.1 E.2.1 dX4_readFactor_282 rfl (lv_at hl 1 rfl) ?_
                        refine lv_aload_n E.1 E.2.1 dX4_readFactor_283 rfl (lv_at hl 2 rfl) ?_
                        refine gf_X4_44 E hW g9 dX4_readFactor_284 ?_
                        refine lv_iload_n E.1 E.2.1 dX4_readFactor_287 rfl (lv_at hl 3 rfl) ?_
                        obtain ⟨g92, h⟩ := gd_r h
                        refine r_aald (t := 0) (ty := .object "TaylorModels$Model") E hW (pr_eq g92.1) g92.2 rfl rfl (by decide) dX4_readFactor_288 ?_
                        refine lv_aload_n E.1 E.2.1 dX4_readFactor_289 rfl (lv_at hl 2 rfl) ?_
                        refine gf_X4_34 E hW g9 dX4_readFactor_290 ?_
                        refine lv_iload_n E.1 E.2.1 dX4_readFactor_293 rfl (lv_at hl 3 rfl) ?_
                        refine lv_iconst (v := (1 : Int32)) E.1 E.2.1 dX4_readFactor_294 (by decide) ?_
                        refine lv_iadd E.1 E.2.1 dX4_readFactor_295 ?_
                        obtain ⟨g93, h⟩ := gd_r h
                        refine r_aald (t := 0) (ty := .object "TaylorModels$Model") E hW (pr_eq g93.1) g93.2 rfl rfl (by decide) dX4_readFactor_296 ?_
                        obtain ⟨g94, h⟩ := gd_r h
                        obtain ⟨x96, σ95, c97, h⟩ := obn_r h
                        refine c_V (As := [.ref (G.2.2.2 + (rC (rC q0 5) a1.toNatClampNeg)), .ref (G.2.2.2 + (rC (rC q0 5) a1.toNatClampNeg)), .ref (G.2.2.2 + (rC (rC q0 6) a1.toNatClampNeg)), .ref (G.2.2.2 + (rC (rC q0 3) (a1 + (1 : Int32)).toNatClampNeg))]) (rest := []) E hW (m_X0_composeModels c97) g94 rfl kw_557 wv_X0_composeModels yo_X0_composeModels ⟨rfl, rfl⟩ ⟨by dsimp only; omega, by dsimp only; omega⟩ (lv_size hl) (Nat.le_of_ble_eq_true rfl) ⟨(Nat.le_of_ble_eq_true rfl), (Nat.le_of_ble_eq_true rfl)⟩ rfl dX4_readFactor_297 (fun H locs hW => ?_)
                        refine W.eq (g2 := F0 m 300 ls [.int x96]) rfl ?_
                        refine lv_if_ne (tgt := 312) E.1 E.2.1 dX4_readFactor_300 (by decide) (fun g => ?_) (fun g => ?_)
                        · have h := ifn h g
                          refine lv_iconst (v := (1 : Int32)) E.1 E.2.1 dX4_readFactor_312 (by decide) ?_
                          refine lv_goto (tgt := 317) E.1 E.2.1 dX4_readFactor_313 (by decide) ?_
                          exact e_z E hW hr hlk (by decide) h dX4_readFactor_317
                        · have h := ifp h g
                          refine lv_aload_n E.1 E.2.1 dX4_readFactor_303 rfl (lv_at hl 2 rfl) ?_
                          refine lv_bipush (v := (-5 : Int32)) E.1 E.2.1 dX4_readFactor_304 (by decide) ?_
                          obtain ⟨x99, σ98, c100, h⟩ := obn_r h
                          refine c_V (As := [.int (-5 : Int32)]) (rest := []) E hW (m_X4_fail c100) g9 rfl kw_417 wv_X4_fail yo_X4_fail ⟨rfl, rfl⟩ ⟨by dsimp only; omega, by dsimp only; omega⟩ (lv_size hl) (Nat.le_of_ble_eq_true rfl) ⟨(Nat.le_of_ble_eq_true rfl), (Nat.le_of_ble_eq_true rfl)⟩ rfl dX4_readFactor_306 (fun H locs hW => ?_)
                          refine W.eq (g2 := F0 m 309 ls [.int x99]) rfl ?_
                          refine lv_if_eq (tgt := 316) E.1 E.2.1 dX4_readFactor_309 (by decide) (fun g => ?_) (fun g => ?_)
                          · have h := ifp h g
                            refine lv_iconst (v := (0 : Int32)) E.1 E.2.1 dX4_readFactor_316 (by decide) ?_
                            exact e_z E hW hr hlk (by decide) h dX4_readFactor_317
                          · have h := ifn h g
                            refine lv_iconst (v := (1 : Int32)) E.1 E.2.1 dX4_readFactor_312 (by decide) ?_
                            refine lv_goto (tgt := 317) E.1 E.2.1 dX4_readFactor_313 (by decide) ?_
                            exact e_z E hW hr hlk (by decide) h dX4_readFactor_317
                    · have h := ifn h g
                      refine lv_iconst (v := (1 : Int32)) E.1 E.2.1 dX4_readFactor_267 (by decide) ?_
                      exact e_z E hW hr hlk (by decide) h dX4_readFactor_268
                  · have h := ifp h g
                    refine lv_aload_n E.1 E.2.1 dX4_readFactor_228 rfl (lv_at hl 2 rfl) ?_
                    refine lv_bipush (v := (-4 : Int32)) E.1 E.2.1 dX4_readFactor_229 (by decide) ?_
                    obtain ⟨x102, σ101, c103, h⟩ := obn_r h
                    refine c_V (As := [.int (-4 : Int32)]) (rest := []) E hW (m_X4_fail c103) g9 rfl kw_417 wv_X4_fail yo_X4_fail ⟨rfl, rfl⟩ ⟨by dsimp only; omega, by dsimp only; omega⟩ (lv_size hl) (Nat.le_of_ble_eq_true rfl) ⟨(Nat.le_of_ble_eq_true rfl), (Nat.le_of_ble_eq_true rfl)⟩ rfl dX4_readFactor_231 (fun H locs hW => ?_)
                    refine W.eq (g2 := F0 m 234 ls [.int x102]) rfl ?_
                    obtain ⟨g104, h⟩ := gd_r h
                    exact e_z E hW hr hlk g104 h dX4_readFactor_234
                · have h := ifn h g
                  refine lv_aload_n E.1 E.2.1 dX4_readFactor_211 rfl (lv_at hl 2 rfl) ?_
                  refine lv_aload_n E.1 E.2.1 dX4_readFactor_212 rfl (lv_at hl 1 rfl) ?_
                  obtain ⟨x106, σ105, c107, h⟩ := obn_r h
                  refine c_V (As := [.ref (G.2.2.2 + (rC (rC q0 5) a1.toNatClampNeg))]) (rest := []) E hW (m_X4_readConstant c107) g9 rfl kw_532 wv_X4_readConstant yo_X4_readConstant ⟨rfl, rfl⟩ ⟨by dsimp only; omega, by dsimp only; omega⟩ (lv_size hl) (Nat.le_of_ble_eq_true rfl) ⟨(Nat.le_of_ble_eq_true rfl), (Nat.le_of_ble_eq_true rfl)⟩ rfl dX4_readFactor_213 (fun H locs hW => ?_)
                  refine W.eq (g2 := F0 m 216 ls [.int x106]) rfl ?_
                  obtain ⟨g108, h⟩ := gd_r h
                  exact e_z E hW hr hlk g108 h dX4_readFactor_216
              · have h := ifp h g
                refine lv_aload_n E.1 E.2.1 dX4_readFactor_181 rfl (lv_at hl 1 rfl) ?_
                refine lv_iload_n E.1 E.2.1 dX4_readFactor_182 rfl (lv_at hl 2 rfl) ?_
                obtain ⟨x110, σ109, c111, h⟩ := obn_r h
                refine c_V (As := [.int a1]) (rest := []) E hW (m_X4_readParenthesis hrc c111) g9 rfl kw_462 wv_X4_readParenthesis yo_X4_readParenthesis ⟨rfl, rfl⟩ ⟨by dsimp only; omega, by dsimp only; omega⟩ (lv_size hl) (Nat.le_of_ble_eq_true rfl) ⟨(Nat.le_of_ble_eq_true rfl), (Nat.le_of_ble_eq_true rfl)⟩ rfl dX4_readFactor_183 (fun H locs hW => ?_)
                refine W.eq (g2 := F0 m 186 ls [.int x110]) rfl ?_
                refine lv_istore_n (lv' := [(3, .int x110), (2, .ref (G.2.2.2 + (rC (rC q0 5) a1.toNatClampNeg))), (0, .ref (G.2.2.2 + q0)), (1, .int a1)]) E.1 E.2.1 dX4_readFactor_186 rfl hl (by decide) rfl (fun ls hl => ?_)
                refine lv_aload_n E.1 E.2.1 dX4_readFactor_187 rfl (lv_at hl 1 rfl) ?_
                refine lv_aload_n E.1 E.2.1 dX4_readFactor_188 rfl (lv_at hl 2 rfl) ?_
                refine gf_X4_44 E hW g9 dX4_readFactor_189 ?_
                refine lv_iload_n E.1 E.2.1 dX4_readFactor_192 rfl (lv_at hl 3 rfl) ?_
                obtain ⟨g112, h⟩ := gd_r h
                refine r_aald (t := 0) (ty := .object "TaylorModels$Model") E hW (pr_eq g112.1) g112.2 rfl rfl (by decide) dX4_readFactor_193 ?_
                obtain ⟨g113, h⟩ := gd_r h
                obtain ⟨_r, σ114, c115, h⟩ := obn_r h
                refine c_V (As := [.ref (G.2.2.2 + (rC (rC q0 6) a1.toNatClampNeg))]) (rest := []) E hW (m_X2_copyFrom c115) g113 rfl kw_470 wv_X2_copyFrom yo_X2_copyFrom ⟨rfl, rfl⟩ ⟨by dsimp only; omega, by dsimp only; omega⟩ (lv_size hl) (Nat.le_of_ble_eq_true rfl) ⟨(Nat.le_of_ble_eq_true rfl), (Nat.le_of_ble_eq_true rfl)⟩ rfl dX4_readFactor_194 (fun H locs hW => ?_)
                refine W.eq (g2 := F0 m 197 ls []) rfl ?_
                refine lv_iload_n E.1 E.2.1 dX4_readFactor_197 rfl (lv_at hl 0 rfl) ?_
                obtain ⟨g116, h⟩ := gd_r h
                exact e_z E hW hr hlk g116 h dX4_readFactor_198
            · have h := ifn h g
              exact hJ46 _ _ _ _ _ _ _ h hW (lv_sub hl [1, 2, 0] rfl)
        · have h := ifn h g
          exact hJ18 _ _ _ _ _ _ h hW (lv_sub hl [1, 0] rfl)
    · have h := ifn h g
      exact hJ3 _ _ _ _ _ h hW (lv_sub hl [0] rfl)
set_option maxHeartbeats 4000000 in
set_option maxRecDepth 100000 in
theorem L_X4_readTerm_45 {p : Program} {l : Launch} {e : Env} {s : State} {m : MethodId} {args : Array Value} {below : List Frame} {meth : Method} {c : Code} {G : GP} {A0 : Nat → Prop} {σ0 : St} {r0 : Int32} {rc : Nat → Int32 → St → Option (Int32 × St)} {rf rl : Nat} (hrc : ∀ {sz q : Nat} {a0 : Int32} {σ σ0 : St} {r0 : Int32}, rc q a0 σ = some (r0, σ0) → Met l yX4_readSum [.code yX4_readSum cX4_readSum 6 (some .boolean)] ({ frames := rf, cells := 0, slots := 0, locals := rl } : Room) (va_Pc [.ref (G.2.2.2 + q), .int a0] (PreC G skC sz σ)) (QO (PoC G skC σ0) (Aw G.2.2.2 skC.1 sz) (some (.int r0))) 0 0 (Aw G.2.2.2 skC.1 sz)) {K99 : Nat → St → Option (Int32 × St)} (E : En p m c s cX4_readTerm 4 yX4_readTerm.cls G A0) (hr : meth.sig.returnType = (some .boolean)) (hlk : meth.locks = false) (hK99 : ∀ (q24 : Nat) (σ23 : St) (H : Heap) (locs : List Loc) (ls : Array Slot), K99 q24 σ23 = some (r0, σ0) → Wo G skC A0 s σ23 H locs → lv_has ls 4 [(0, .ref (G.2.2.2 + q24))] → W p l e ({ frames := rf + 8, cells := 0, slots := 0, locals := rl + 245 } : Room) s m args below meth c H locs 0 0 (MQ below (QO (PoC G skC σ0) A0 (some (.int r0))) args s 0 0 A0) (F0 m 99 ls [])) : ∀ (n25 : Nat) (q19 : Nat) (x20 : Int32) (q21 : Nat) (x22 : Int32) (σ18 : St) (H : Heap) (locs : List Loc) (ls : Array Slot), f_X4_readTerm_L45 rc K99 n25 q19 x20 q21 x22 σ18 = some (r0, σ0) → Wo G skC A0 s σ18 H locs → lv_has ls 4 [(0, .ref (G.2.2.2 + q19)), (1, .int x20), (2, .ref (G.2.2.2 + q21)), (3, .int x22)] → W p l e ({ frames := rf + 8, cells := 0, slots := 0, locals := rl + 245 } : Room) s m args below meth c H locs 0 0 (MQ below (QO (PoC G skC σ0) A0 (some (.int r0))) args s 0 0 A0) (F0 m 45 ls []) := by
  intro n25
  induction n25 with
  | zero =>
    intro q19 x20 q21 x22 σ18 H locs ls h hW hl
    rw [f_X4_readTerm_L45] at h
    cases h
  | succ n25 ih =>
    intro q19 x20 q21 x22 σ18 H locs ls h hW hl
    rw [f_X4_readTerm_L45] at h
    refine lv_iload_n E.1 E.2.1 dX4_readTerm_45 rfl (lv_at hl 3 rfl) ?_
    refine lv_sipush (v := (700 : Int32)) E.1 E.2.1 dX4_readTerm_46 (by decide) ?_
    refine lv_icmp_ge (tgt := 112) E.1 E.2.1 dX4_readTerm_49 (by decide) (fun g => ?_) (fun g => ?_)
    · have h := ifp h g
      refine lv_iconst (v := (1 : Int32)) E.1 E.2.1 dX4_readTerm_112 (by decide) ?_
      exact e_z E hW hr hlk (by decide) h dX4_readTerm_113
    · have h := ifn h g
      refine lv_aload_n E.1 E.2.1 dX4_readTerm_52 rfl (lv_at hl 0 rfl) ?_
      obtain ⟨g26, h⟩ := gd_r h
      refine gf_X4_14 E hW g26 dX4_readTerm_53 ?_
      obtain ⟨g27, h⟩ := gd_r h
      refine gf_X4_72 E hW g27 dX4_readTerm_56 ?_
      refine lv_bipush (v := (42 : Int32)) E.1 E.2.1 dX4_readTerm_59 (by decide) ?_
      refine lv_icmp_ne (tgt := 112) E.1 E.2.1 dX4_readTerm_61 (by decide) (fun g => ?_) (fun g => ?_)
      · have h := ifn h g
        refine lv_iconst (v := (1 : Int32)) E.1 E.2.1 dX4_readTerm_112 (by decide) ?_
        exact e_z E hW hr hlk (by decide) h dX4_readTerm_113
      · have h := ifp h g
        refine lv_aload_n E.1 E.2.1 dX4_readTerm_64 rfl (lv_at hl 0 rfl) ?_
        refine gf_X4_14 E hW g26 dX4_readTerm_65 ?_
        obtain ⟨_r, σ28, c29, h⟩ := obn_r h
        refine c_V (As := []) (rest := []) E hW (m_X5_advance c29) g27 rfl kw_421 wv_X5_advance yo_X5_advance ⟨rfl, rfl⟩ ⟨by dsimp only; omega, by dsimp only; omega⟩ (lv_size hl) (Nat.le_of_ble_eq_true rfl) ⟨(Nat.le_of_ble_eq_true rfl), (Nat.le_of_ble_eq_true rfl)⟩ rfl dX4_readTerm_68 (fun H locs hW => ?_)
        refine W.eq (g2 := F0 m 71 ls []) rfl ?_
        refine lv_aload_n E.1 E.2.1 dX4_readTerm_71 rfl (lv_at hl 0 rfl) ?_
        refine lv_iload_n E.1 E.2.1 dX4_readTerm_72 rfl (lv_at hl 1 rfl) ?_
        obtain ⟨x31, σ30, c32, h⟩ := obn_r h
        refine c_V (As := [.int x20]) (rest := []) E hW (m_X4_readFactor hrc c32) g26 rfl kw_438 wv_X4_readFactor yo_X4_readFactor ⟨rfl, rfl⟩ ⟨by dsimp only; omega, by dsimp only; omega⟩ (lv_size hl) (Nat.le_of_ble_eq_true rfl) ⟨(Nat.le_of_ble_eq_true rfl), (Nat.le_of_ble_eq_true rfl)⟩ rfl dX4_readTerm_73 (fun H locs hW => ?_)
        refine W.eq (g2 := F0 m 76 ls [.int x31]) rfl ?_
        refine lv_if_ne (tgt := 81) E.1 E.2.1 dX4_readTerm_76 (by decide) (fun g => ?_) (fun g => ?_)
        · have h := ifn h g
          refine lv_aload_n E.1 E.2.1 dX4_readTerm_81 rfl (lv_at hl 0 rfl) ?_
          refine gf_X4_28 E hW g26 dX4_readTerm_82 ?_
          refine lv_aload_n E.1 E.2.1 dX4_readTerm_85 rfl (lv_at hl 2 rfl) ?_
          refine lv_aload_n E.1 E.2.1 dX4_readTerm_86 rfl (lv_at hl 2 rfl) ?_
          refine lv_aload_n E.1 E.2.1 dX4_readTerm_87 rfl (lv_at hl 0 rfl) ?_
          refine gf_X4_41 E hW g26 dX4_readTerm_88 ?_
          refine lv_iload_n E.1 E.2.1 dX4_readTerm_91 rfl (lv_at hl 1 rfl) ?_
          obtain ⟨g33, h⟩ := gd_r h
          refine r_aald (t := 0) (ty := .object "TaylorModels$Model") E hW (pr_eq g33.1) g33.2 rfl rfl (by decide) dX4_readTerm_92 ?_
          obtain ⟨g34, h⟩ := gd_r h
          obtain ⟨x36, σ35, c37, h⟩ := obn_r h
          refine c_V (As := [.ref (G.2.2.2 + q21), .ref (G.2.2.2 + q21), .ref (G.2.2.2 + (rC (rC q19 5) x20.toNatClampNeg))]) (rest := []) E hW (m_X0_multiplyModels c37) g34 rfl kw_600 wv_X0_multiplyModels yo_X0_multiplyModels ⟨rfl, rfl⟩ ⟨by dsimp only; omega, by dsimp only; omega⟩ (lv_size hl) (Nat.le_of_ble_eq_true rfl) ⟨(Nat.le_of_ble_eq_true rfl), (Nat.le_of_ble_eq_true rfl)⟩ rfl dX4_readTerm_93 (fun H locs hW => ?_)
          refine W.eq (g2 := F0 m 96 ls [.int x36]) rfl ?_
          refine lv_if_ne (tgt := 106) E.1 E.2.1 dX4_readTerm_96 (by decide) (fun g => ?_) (fun g => ?_)
          · have h := ifn h g
            obtain ⟨x38, ex38⟩ : ∃ y : Int32, y = x22 + (1 : Int32) := ⟨_, rfl⟩
            have h := bnd_r ex38 h
            refine lv_iinc (v := x38) (lv' := [(3, .int x38), (0, .ref (G.2.2.2 + q19)), (1, .int x20), (2, .ref (G.2.2.2 + q21))]) E.1 E.2.1 dX4_readTerm_106 hl (k := 3) rfl (by rw [ex38]; rfl) (by decide) rfl (fun ls hl => ?_)
            refine lv_goto (tgt := 45) E.1 E.2.1 dX4_readTerm_109 (by decide) ?_
            exact ih _ _ _ _ _ _ _ _ h hW (lv_sub hl [1, 2, 3, 0] rfl)
          · have h := ifp h g
            exact hK99 _ _ _ _ _ h hW (lv_sub hl [0] rfl)
        · have h := ifp h g
          refine lv_iconst (v := (0 : Int32)) E.1 E.2.1 dX4_readTerm_79 (by decide) ?_
          exact e_z E hW hr hlk (by decide) h dX4_readTerm_80
set_option maxHeartbeats 4000000 in
set_option maxRecDepth 100000 in
theorem m_X4_readTerm {rc : Nat → Int32 → St → Option (Int32 × St)} {rf rl : Nat} {l : Launch} {G : GP} {sz : Nat} {q0 : Nat} {a1 : Int32} {σ σ0 : St} {r0 : Int32} (hrc : ∀ {sz q : Nat} {a0 : Int32} {σ σ0 : St} {r0 : Int32}, rc q a0 σ = some (r0, σ0) → Met l yX4_readSum [.code yX4_readSum cX4_readSum 6 (some .boolean)] ({ frames := rf, cells := 0, slots := 0, locals := rl } : Room) (va_Pc [.ref (G.2.2.2 + q), .int a0] (PreC G skC sz σ)) (QO (PoC G skC σ0) (Aw G.2.2.2 skC.1 sz) (some (.int r0))) 0 0 (Aw G.2.2.2 skC.1 sz)) (h : f_X4_readTerm rc q0 a1 σ = some (r0, σ0)) : Met l yX4_readTerm [.code yX4_readTerm cX4_readTerm 4 (some .boolean)] ({ frames := rf + 8, cells := 0, slots := 0, locals := rl + 245 } : Room) (va_Pc [.ref (G.2.2.2 + q0), .int a1] (PreC G skC sz σ)) (QO (PoC G skC σ0) (Aw G.2.2.2 skC.1 sz) (some (.int r0))) 0 0 (Aw G.2.2.2 skC.1 sz) := by
  refine mkMet (by decide +kernel) (Nat.le_of_ble_eq_true rfl) skC_ok ?_
  intro p e s m below meth c ls E hW hl hr hlk
  have hl : lv_has ls 4 [(0, .ref (G.2.2.2 + q0)), (1, .int a1)] := hl
  generalize Aw G.2.2.2 skC.1 s.heap.size = A0 at E hW ⊢
  generalize ([.ref (G.2.2.2 + q0), .int a1] : List Value).toArray = args
  unfold f_X4_readTerm at h
  refine lv_iload_n E.1 E.2.1 dX4_readTerm_0 rfl (lv_at hl 1 rfl) ?_
  obtain ⟨J3, eJ3, h⟩ := bnd_x h
  have hJ3 : ∀ (q2 : Nat) (σ1 : St) (H : Heap) (locs : List Loc) (ls : Array Slot), J3 q2 σ1 = some (r0, σ0) → Wo G skC A0 s σ1 H locs → lv_has ls 4 [(0, .ref (G.2.2.2 + q2))] → W p l e ({ frames := rf + 8, cells := 0, slots := 0, locals := rl + 245 } : Room) s m args below meth c H locs 0 0 (MQ below (QO (PoC G skC σ0) A0 (some (.int r0))) args s 0 0 A0) (F0 m 9 ls []) := by
    intro q2 σ1 H locs ls h hW hl
    have h := jr2 eJ3 h
    refine lv_aload_n E.1 E.2.1 dX4_readTerm_9 rfl (lv_at hl 0 rfl) ?_
    refine lv_bipush (v := (-6 : Int32)) E.1 E.2.1 dX4_readTerm_10 (by decide) ?_
    obtain ⟨g4, h⟩ := gd_r h
    obtain ⟨x6, σ5, c7, h⟩ := obn_r h
    refine c_V (As := [.int (-6 : Int32)]) (rest := []) E hW (m_X4_fail c7) g4 rfl kw_417 wv_X4_fail yo_X4_fail ⟨rfl, rfl⟩ ⟨by dsimp only; omega, by dsimp only; omega⟩ (lv_size hl) (Nat.le_of_ble_eq_true rfl) ⟨(Nat.le_of_ble_eq_true rfl), (Nat.le_of_ble_eq_true rfl)⟩ rfl dX4_readTerm_12 (fun H locs hW => ?_)
    refine W.eq (g2 := F0 m 15 ls [.int x6]) rfl ?_
    obtain ⟨g8, h⟩ := gd_r h
    exact e_z E hW hr hlk g8 h dX4_readTerm_15
  refine lv_if_lt (tgt := 9) E.1 E.2.1 dX4_readTerm_1 (by decide) (fun g => ?_) (fun g => ?_)
  · have h := ifp h g
    exact hJ3 _ _ _ _ _ h hW (lv_sub hl [0] rfl)
  · have h := ifn h g
    refine lv_iload_n E.1 E.2.1 dX4_readTerm_4 rfl (lv_at hl 1 rfl) ?_
    refine lv_iconst (v := (5 : Int32)) E.1 E.2.1 dX4_readTerm_5 (by decide) ?_
    refine lv_icmp_lt (tgt := 16) E.1 E.2.1 dX4_readTerm_6 (by decide) (fun g => ?_) (fun g => ?_)
    · have h := ifp h g
      refine lv_aload_n E.1 E.2.1 dX4_readTerm_16 rfl (lv_at hl 0 rfl) ?_
      refine lv_iload_n E.1 E.2.1 dX4_readTerm_17 rfl (lv_at hl 1 rfl) ?_
      obtain ⟨g9, h⟩ := gd_r h
      obtain ⟨x11, σ10, c12, h⟩ := obn_r h
      refine c_V (As := [.int a1]) (rest := []) E hW (m_X4_readFactor hrc c12) g9 rfl kw_438 wv_X4_readFactor yo_X4_readFactor ⟨rfl, rfl⟩ ⟨by dsimp only; omega, by dsimp only; omega⟩ (lv_size hl) (Nat.le_of_ble_eq_true rfl) ⟨(Nat.le_of_ble_eq_true rfl), (Nat.le_of_ble_eq_true rfl)⟩ rfl dX4_readTerm_18 (fun H locs hW => ?_)
      refine W.eq (g2 := F0 m 21 ls [.int x11]) rfl ?_
      refine lv_if_ne (tgt := 26) E.1 E.2.1 dX4_readTerm_21 (by decide) (fun g => ?_) (fun g => ?_)
      · have h := ifn h g
        refine lv_aload_n E.1 E.2.1 dX4_readTerm_26 rfl (lv_at hl 0 rfl) ?_
        refine gf_X4_38 E hW g9 dX4_readTerm_27 ?_
        refine lv_iload_n E.1 E.2.1 dX4_readTerm_30 rfl (lv_at hl 1 rfl) ?_
        obtain ⟨g13, h⟩ := gd_r h
        refine r_aald (t := 0) (ty := .object "TaylorModels$Model") E hW (pr_eq g13.1) g13.2 rfl rfl (by decide) dX4_readTerm_31 ?_
        refine lv_astore_n (lv' := [(2, .ref (G.2.2.2 + (rC (rC q0 4) a1.toNatClampNeg))), (0, .ref (G.2.2.2 + q0)), (1, .int a1)]) E.1 E.2.1 dX4_readTerm_32 rfl hl (by decide) rfl (fun ls hl => ?_)
        refine lv_aload_n E.1 E.2.1 dX4_readTerm_33 rfl (lv_at hl 0 rfl) ?_
        refine lv_aload_n E.1 E.2.1 dX4_readTerm_34 rfl (lv_at hl 1 rfl) ?_
        refine gf_X4_41 E hW g9 dX4_readTerm_35 ?_
        refine lv_iload_n E.1 E.2.1 dX4_readTerm_38 rfl (lv_at hl 2 rfl) ?_
        obtain ⟨g14, h⟩ := gd_r h
        refine r_aald (t := 0) (ty := .object "TaylorModels$Model") E hW (pr_eq g14.1) g14.2 rfl rfl (by decide) dX4_readTerm_39 ?_
        obtain ⟨g15, h⟩ := gd_r h
        obtain ⟨_r, σ16, c17, h⟩ := obn_r h
        refine c_V (As := [.ref (G.2.2.2 + (rC (rC q0 5) a1.toNatClampNeg))]) (rest := []) E hW (m_X2_copyFrom c17) g15 rfl kw_470 wv_X2_copyFrom yo_X2_copyFrom ⟨rfl, rfl⟩ ⟨by dsimp only; omega, by dsimp only; omega⟩ (lv_size hl) (Nat.le_of_ble_eq_true rfl) ⟨(Nat.le_of_ble_eq_true rfl), (Nat.le_of_ble_eq_true rfl)⟩ rfl dX4_readTerm_40 (fun H locs hW => ?_)
        refine W.eq (g2 := F0 m 43 ls []) rfl ?_
        refine lv_iconst (v := (0 : Int32)) E.1 E.2.1 dX4_readTerm_43 (by decide) ?_
        refine lv_istore_n (lv' := [(3, .int (0 : Int32)), (2, .ref (G.2.2.2 + (rC (rC q0 4) a1.toNatClampNeg))), (0, .ref (G.2.2.2 + q0)), (1, .int a1)]) E.1 E.2.1 dX4_readTerm_44 rfl hl (by decide) rfl (fun ls hl => ?_)
        refine L_X4_readTerm_45 hrc E hr hlk ?_ _ _ _ _ _ _ _ _ _ h hW (lv_sub hl [2, 3, 1, 0] rfl)
        · intro q24 σ23 H locs ls h hW hl
          refine lv_aload_n E.1 E.2.1 dX4_readTerm_99 rfl (lv_at hl 0 rfl) ?_
          refine lv_bipush (v := (-5 : Int32)) E.1 E.2.1 dX4_readTerm_100 (by decide) ?_
          obtain ⟨g39, h⟩ := gd_r h
          obtain ⟨x41, σ40, c42, h⟩ := obn_r h
          refine c_V (As := [.int (-5 : Int32)]) (rest := []) E hW (m_X4_fail c42) g39 rfl kw_417 wv_X4_fail yo_X4_fail ⟨rfl, rfl⟩ ⟨by dsimp only; omega, by dsimp only; omega⟩ (lv_size hl) (Nat.le_of_ble_eq_true rfl) ⟨(Nat.le_of_ble_eq_true rfl), (Nat.le_of_ble_eq_true rfl)⟩ rfl dX4_readTerm_102 (fun H locs hW => ?_)
          refine W.eq (g2 := F0 m 105 ls [.int x41]) rfl ?_
          obtain ⟨g43, h⟩ := gd_r h
          exact e_z E hW hr hlk g43 h dX4_readTerm_105
      · have h := ifp h g
        refine lv_iconst (v := (0 : Int32)) E.1 E.2.1 dX4_readTerm_24 (by decide) ?_
        exact e_z E hW hr hlk (by decide) h dX4_readTerm_25
    · have h := ifn h g
      exact hJ3 _ _ _ _ _ h hW (lv_sub hl [0] rfl)
set_option maxHeartbeats 4000000 in
set_option maxRecDepth 100000 in
theorem L_X4_readSum_45 {p : Program} {l : Launch} {e : Env} {s : State} {m : MethodId} {args : Array Value} {below : List Frame} {meth : Method} {c : Code} {G : GP} {A0 : Nat → Prop} {σ0 : St} {r0 : Int32} {rc : Nat → Int32 → St → Option (Int32 × St)} {rf rl : Nat} (hrc : ∀ {sz q : Nat} {a0 : Int32} {σ σ0 : St} {r0 : Int32}, rc q a0 σ = some (r0, σ0) → Met l yX4_readSum [.code yX4_readSum cX4_readSum 6 (some .boolean)] ({ frames := rf, cells := 0, slots := 0, locals := rl } : Room) (va_Pc [.ref (G.2.2.2 + q), .int a0] (PreC G skC sz σ)) (QO (PoC G skC σ0) (Aw G.2.2.2 skC.1 sz) (some (.int r0))) 0 0 (Aw G.2.2.2 skC.1 sz)) {K157 : Nat → St → Option (Int32 × St)} (E : En p m c s cX4_readSum 6 yX4_readSum.cls G A0) (hr : meth.sig.returnType = (some .boolean)) (hlk : meth.locks = false) (hK157 : ∀ (q24 : Nat) (σ23 : St) (H : Heap) (locs : List Loc) (ls : Array Slot), K157 q24 σ23 = some (r0, σ0) → Wo G skC A0 s σ23 H locs → lv_has ls 6 [(0, .ref (G.2.2.2 + q24))] → W p l e ({ frames := rf + 9, cells := 0, slots := 0, locals := rl + 268 } : Room) s m args below meth c H locs 0 0 (MQ below (QO (PoC G skC σ0) A0 (some (.int r0))) args s 0 0 A0) (F0 m 157 ls [])) : ∀ (n25 : Nat) (q19 : Nat) (x20 : Int32) (q21 : Nat) (x22 : Int32) (σ18 : St) (H : Heap) (locs : List Loc) (ls : Array Slot), f_X4_readSum_L45 rc K157 n25 q19 x20 q21 x22 σ18 = some (r0, σ0) → Wo G skC A0 s σ18 H locs → lv_has ls 6 [(0, .ref (G.2.2.2 + q19)), (1, .int x20), (2, .ref (G.2.2.2 + q21)), (3, .int x22)] → W p l e ({ frames := rf + 9, cells := 0, slots := 0, locals := rl + 268 } : Room) s m args below meth c H locs 0 0 (MQ below (QO (PoC G skC σ0) A0 (some (.int r0))) args s 0 0 A0) (F0 m 45 ls []) := by
  intro n25
  induction n25 with
  | zero =>
    intro q19 x20 q21 x22 σ18 H locs ls h hW hl
    rw [f_X4_readSum_L45] at h
    cases h
  | succ n25 ih =>
    intro q19 x20 q21 x22 σ18 H locs ls h hW hl
    rw [f_X4_readSum_L45] at h
    refine lv_iload_n E.1 E.2.1 dX4_readSum_45 rfl (lv_at hl 3 rfl) ?_
    refine lv_sipush (v := (700 : Int32)) E.1 E.2.1 dX4_readSum_46 (by decide) ?_
    refine lv_icmp_ge (tgt := 170) E.1 E.2.1 dX4_readSum_49 (by decide) (fun g => ?_) (fun g => ?_)
    · have h := ifp h g
      refine lv_iconst (v := (1 : Int32)) E.1 E.2.1 dX4_readSum_170 (by decide) ?_
      exact e_z E hW hr hlk (by decide) h dX4_readSum_171
    · have h := ifn h g
      refine lv_aload_n E.1 E.2.1 dX4_readSum_52 rfl (lv_at hl 0 rfl) ?_
      obtain ⟨g26, h⟩ := gd_r h
      refine gf_X4_14 E hW g26 dX4_readSum_53 ?_
      obtain ⟨g27, h⟩ := gd_r h
      refine gf_X4_72 E hW g27 dX4_readSum_56 ?_
      refine lv_bipush (v := (43 : Int32)) E.1 E.2.1 dX4_readSum_59 (by decide) ?_
      obtain ⟨J33, eJ33, h⟩ := bnd_x h
      have hJ33 : ∀ (q29 : Nat) (x30 : Int32) (q31 : Nat) (x32 : Int32) (σ28 : St) (H : Heap) (locs : List Loc) (ls : Array Slot), J33 q29 x30 q31 x32 σ28 = some (r0, σ0) → Wo G skC A0 s σ28 H locs → lv_has ls 6 [(0, .ref (G.2.2.2 + q29)), (1, .int x30), (2, .ref (G.2.2.2 + q31)), (3, .int x32)] → W p l e ({ frames := rf + 9, cells := 0, slots := 0, locals := rl + 268 } : Room) s m args below meth c H locs 0 0 (MQ below (QO (PoC G skC σ0) A0 (some (.int r0))) args s 0 0 A0) (F0 m 76 ls []) := by
        intro q29 x30 q31 x32 σ28 H locs ls h hW hl
        have h := jr5 eJ33 h
        refine lv_aload_n E.1 E.2.1 dX4_readSum_76 rfl (lv_at hl 0 rfl) ?_
        obtain ⟨g34, h⟩ := gd_r h
        refine gf_X4_14 E hW g34 dX4_readSum_77 ?_
        obtain ⟨g35, h⟩ := gd_r h
        refine gf_X4_72 E hW g35 dX4_readSum_80 ?_
        refine lv_bipush (v := (43 : Int32)) E.1 E.2.1 dX4_readSum_83 (by decide) ?_
        obtain ⟨J42, eJ42, h⟩ := bnd_x h
        have hJ42 : ∀ (q37 : Nat) (x38 : Int32) (q39 : Nat) (x40 : Int32) (x41 : Int32) (σ36 : St) (H : Heap) (locs : List Loc) (ls : Array Slot), J42 q37 x38 q39 x40 x41 σ36 = some (r0, σ0) → Wo G skC A0 s σ36 H locs → lv_has ls 6 [(0, .ref (G.2.2.2 + q37)), (1, .int x38), (2, .ref (G.2.2.2 + q39)), (3, .int x40)] → W p l e ({ frames := rf + 9, cells := 0, slots := 0, locals := rl + 268 } : Room) s m args below meth c H locs 0 0 (MQ below (QO (PoC G skC σ0) A0 (some (.int r0))) args s 0 0 A0) (F0 m 93 ls [.int x41]) := by
          intro q37 x38 q39 x40 x41 σ36 H locs ls h hW hl
          have h := jr6 eJ42 h
          refine lv_istore (lv' := [(4, .int x41), (0, .ref (G.2.2.2 + q37)), (1, .int x38), (2, .ref (G.2.2.2 + q39)), (3, .int x40)]) E.1 E.2.1 dX4_readSum_93 hl (by decide) rfl (fun ls hl => ?_)
          refine lv_aload_n E.1 E.2.1 dX4_readSum_95 rfl (lv_at hl 1 rfl) ?_
          obtain ⟨g43, h⟩ := gd_r h
          refine gf_X4_14 E hW g43 dX4_readSum_96 ?_
          obtain ⟨g44, h⟩ := gd_r h
          obtain ⟨_r, σ45, c46, h⟩ := obn_r h
          refine c_V (As := []) (rest := []) E hW (m_X5_advance c46) g44 rfl kw_421 wv_X5_advance yo_X5_advance ⟨rfl, rfl⟩ ⟨by dsimp only; omega, by dsimp only; omega⟩ (lv_size hl) (Nat.le_of_ble_eq_true rfl) ⟨(Nat.le_of_ble_eq_true rfl), (Nat.le_of_ble_eq_true rfl)⟩ rfl dX4_readSum_99 (fun H locs hW => ?_)
          refine W.eq (g2 := F0 m 102 ls []) rfl ?_
          refine lv_aload_n E.1 E.2.1 dX4_readSum_102 rfl (lv_at hl 1 rfl) ?_
          refine lv_iload_n E.1 E.2.1 dX4_readSum_103 rfl (lv_at hl 2 rfl) ?_
          obtain ⟨x48, σ47, c49, h⟩ := obn_r h
          refine c_V (As := [.int x38]) (rest := []) E hW (m_X4_readTerm hrc c49) g43 rfl kw_434 wv_X4_readTerm yo_X4_readTerm ⟨rfl, rfl⟩ ⟨by dsimp only; omega, by dsimp only; omega⟩ (lv_size hl) (Nat.le_of_ble_eq_true rfl) ⟨(Nat.le_of_ble_eq_true rfl), (Nat.le_of_ble_eq_true rfl)⟩ rfl dX4_readSum_104 (fun H locs hW => ?_)
          refine W.eq (g2 := F0 m 107 ls [.int x48]) rfl ?_
          refine lv_if_ne (tgt := 112) E.1 E.2.1 dX4_readSum_107 (by decide) (fun g => ?_) (fun g => ?_)
          · have h := ifn h g
            refine lv_iload E.1 E.2.1 dX4_readSum_112 (lv_at hl 0 rfl) ?_
            obtain ⟨J56, eJ56, h⟩ := bnd_x h
            have hJ56 : ∀ (q51 : Nat) (x52 : Int32) (q53 : Nat) (x54 : Int32) (x55 : Int32) (σ50 : St) (H : Heap) (locs : List Loc) (ls : Array Slot), J56 q51 x52 q53 x54 x55 σ50 = some (r0, σ0) → Wo G skC A0 s σ50 H locs → lv_has ls 6 [(0, .ref (G.2.2.2 + q51)), (1, .int x52), (2, .ref (G.2.2.2 + q53)), (3, .int x54)] → W p l e ({ frames := rf + 9, cells := 0, slots := 0, locals := rl + 268 } : Room) s m args below meth c H locs 0 0 (MQ below (QO (PoC G skC σ0) A0 (some (.int r0))) args s 0 0 A0) (F0 m 150 ls [.int x55]) := by
              intro q51 x52 q53 x54 x55 σ50 H locs ls h hW hl
              have h := jr6 eJ56 h
              refine lv_istore (lv' := [(5, .int x55), (0, .ref (G.2.2.2 + q51)), (1, .int x52), (2, .ref (G.2.2.2 + q53)), (3, .int x54)]) E.1 E.2.1 dX4_readSum_150 hl (by decide) rfl (fun ls hl => ?_)
              refine lv_iload E.1 E.2.1 dX4_readSum_152 (lv_at hl 0 rfl) ?_
              refine lv_if_ne (tgt := 164) E.1 E.2.1 dX4_readSum_154 (by decide) (fun g => ?_) (fun g => ?_)
              · have h := ifn h g
                obtain ⟨x57, ex57⟩ : ∃ y : Int32, y = x54 + (1 : Int32) := ⟨_, rfl⟩
                have h := bnd_r ex57 h
                refine lv_iinc (v := x57) (lv' := [(3, .int x57), (5, .int x55), (0, .ref (G.2.2.2 + q51)), (1, .int x52), (2, .ref (G.2.2.2 + q53))]) E.1 E.2.1 dX4_readSum_164 hl (k := 4) rfl (by rw [ex57]; rfl) (by decide) rfl (fun ls hl => ?_)
                refine lv_goto (tgt := 45) E.1 E.2.1 dX4_readSum_167 (by decide) ?_
                exact ih _ _ _ _ _ _ _ _ h hW (lv_sub hl [2, 3, 4, 0] rfl)
              · have h := ifp h g
                exact hK157 _ _ _ _ _ h hW (lv_sub hl [1] rfl)
            refine lv_if_eq (tgt := 135) E.1 E.2.1 dX4_readSum_114 (by decide) (fun g => ?_) (fun g => ?_)
            · have h := ifp h g
              refine lv_aload_n E.1 E.2.1 dX4_readSum_135 rfl (lv_at hl 1 rfl) ?_
              refine gf_X4_28 E hW g43 dX4_readSum_136 ?_
              refine lv_aload_n E.1 E.2.1 dX4_readSum_139 rfl (lv_at hl 3 rfl) ?_
              refine lv_aload_n E.1 E.2.1 dX4_readSum_140 rfl (lv_at hl 3 rfl) ?_
              refine lv_aload_n E.1 E.2.1 dX4_readSum_141 rfl (lv_at hl 1 rfl) ?_
              refine gf_X4_38 E hW g43 dX4_readSum_142 ?_
              refine lv_iload_n E.1 E.2.1 dX4_readSum_145 rfl (lv_at hl 2 rfl) ?_
              obtain ⟨g58, h⟩ := gd_r h
              refine r_aald (t := 0) (ty := .object "TaylorModels$Model") E hW (pr_eq g58.1) g58.2 rfl rfl (by decide) dX4_readSum_146 ?_
              obtain ⟨g59, h⟩ := gd_r h
              obtain ⟨x61, σ60, c62, h⟩ := obn_r h
              refine c_V (As := [.ref (G.2.2.2 + q39), .ref (G.2.2.2 + q39), .ref (G.2.2.2 + (rC (rC q37 4) x38.toNatClampNeg))]) (rest := []) E hW (m_X0_subtractModels c62) g59 rfl kw_602 wv_X0_subtractModels yo_X0_subtractModels ⟨rfl, rfl⟩ ⟨by dsimp only; omega, by dsimp only; omega⟩ (lv_size hl) (Nat.le_of_ble_eq_true rfl) ⟨(Nat.le_of_ble_eq_true rfl), (Nat.le_of_ble_eq_true rfl)⟩ rfl dX4_readSum_147 (fun H locs hW => ?_)
              refine W.eq (g2 := F0 m 150 ls [.int x61]) rfl ?_
              exact hJ56 _ _ _ _ _ _ _ _ _ h hW (lv_sub hl [1, 2, 3, 4] rfl)
            · have h := ifn h g
              refine lv_aload_n E.1 E.2.1 dX4_readSum_117 rfl (lv_at hl 1 rfl) ?_
              refine gf_X4_28 E hW g43 dX4_readSum_118 ?_
              refine lv_aload_n E.1 E.2.1 dX4_readSum_121 rfl (lv_at hl 3 rfl) ?_
              refine lv_aload_n E.1 E.2.1 dX4_readSum_122 rfl (lv_at hl 3 rfl) ?_
              refine lv_aload_n E.1 E.2.1 dX4_readSum_123 rfl (lv_at hl 1 rfl) ?_
              refine gf_X4_38 E hW g43 dX4_readSum_124 ?_
              refine lv_iload_n E.1 E.2.1 dX4_readSum_127 rfl (lv_at hl 2 rfl) ?_
              obtain ⟨g63, h⟩ := gd_r h
              refine r_aald (t := 0) (ty := .object "TaylorModels$Model") E hW (pr_eq g63.1) g63.2 rfl rfl (by decide) dX4_readSum_128 ?_
              obtain ⟨g64, h⟩ := gd_r h
              obtain ⟨x66, σ65, c67, h⟩ := obn_r h
              refine c_V (As := [.ref (G.2.2.2 + q39), .ref (G.2.2.2 + q39), .ref (G.2.2.2 + (rC (rC q37 4) x38.toNatClampNeg))]) (rest := []) E hW (m_X0_addModels c67) g64 rfl kw_601 wv_X0_addModels yo_X0_addModels ⟨rfl, rfl⟩ ⟨by dsimp only; omega, by dsimp only; omega⟩ (lv_size hl) (Nat.le_of_ble_eq_true rfl) ⟨(Nat.le_of_ble_eq_true rfl), (Nat.le_of_ble_eq_true rfl)⟩ rfl dX4_readSum_129 (fun H locs hW => ?_)
              refine W.eq (g2 := F0 m 132 ls [.int x66]) rfl ?_
              refine lv_goto (tgt := 150) E.1 E.2.1 dX4_readSum_132 (by decide) ?_
              exact hJ56 _ _ _ _ _ _ _ _ _ h hW (lv_sub hl [1, 2, 3, 4] rfl)
          · have h := ifp h g
            refine lv_iconst (v := (0 : Int32)) E.1 E.2.1 dX4_readSum_110 (by decide) ?_
            exact e_z E hW hr hlk (by decide) h dX4_readSum_111
        refine lv_icmp_ne (tgt := 92) E.1 E.2.1 dX4_readSum_85 (by decide) (fun g => ?_) (fun g => ?_)
        · have h := ifn h g
          refine lv_iconst (v := (0 : Int32)) E.1 E.2.1 dX4_readSum_92 (by decide) ?_
          exact hJ42 _ _ _ _ _ _ _ _ _ h hW (lv_sub hl [0, 1, 2, 3] rfl)
        · have h := ifp h g
          refine lv_iconst (v := (1 : Int32)) E.1 E.2.1 dX4_readSum_88 (by decide) ?_
          refine lv_goto (tgt := 93) E.1 E.2.1 dX4_readSum_89 (by decide) ?_
          exact hJ42 _ _ _ _ _ _ _ _ _ h hW (lv_sub hl [0, 1, 2, 3] rfl)
      refine lv_icmp_eq (tgt := 76) E.1 E.2.1 dX4_readSum_61 (by decide) (fun g => ?_) (fun g => ?_)
      · have h := ifp h g
        exact hJ33 _ _ _ _ _ _ _ _ h hW (lv_sub hl [0, 1, 2, 3] rfl)
      · have h := ifn h g
        refine lv_aload_n E.1 E.2.1 dX4_readSum_64 rfl (lv_at hl 0 rfl) ?_
        refine gf_X4_14 E hW g26 dX4_readSum_65 ?_
        refine gf_X4_72 E hW g27 dX4_readSum_68 ?_
        refine lv_bipush (v := (45 : Int32)) E.1 E.2.1 dX4_readSum_71 (by decide) ?_
        refine lv_icmp_ne (tgt := 170) E.1 E.2.1 dX4_readSum_73 (by decide) (fun g => ?_) (fun g => ?_)
        · have h := ifn h g
          refine lv_iconst (v := (1 : Int32)) E.1 E.2.1 dX4_readSum_170 (by decide) ?_
          exact e_z E hW hr hlk (by decide) h dX4_readSum_171
        · have h := ifp h g
          exact hJ33 _ _ _ _ _ _ _ _ h hW (lv_sub hl [0, 1, 2, 3] rfl)
set_option maxHeartbeats 4000000 in
set_option maxRecDepth 100000 in
theorem m_X4_readSum {rc : Nat → Int32 → St → Option (Int32 × St)} {rf rl : Nat} {l : Launch} {G : GP} {sz : Nat} {q0 : Nat} {a1 : Int32} {σ σ0 : St} {r0 : Int32} (hrc : ∀ {sz q : Nat} {a0 : Int32} {σ σ0 : St} {r0 : Int32}, rc q a0 σ = some (r0, σ0) → Met l yX4_readSum [.code yX4_readSum cX4_readSum 6 (some .boolean)] ({ frames := rf, cells := 0, slots := 0, locals := rl } : Room) (va_Pc [.ref (G.2.2.2 + q), .int a0] (PreC G skC sz σ)) (QO (PoC G skC σ0) (Aw G.2.2.2 skC.1 sz) (some (.int r0))) 0 0 (Aw G.2.2.2 skC.1 sz)) (h : f_X4_readSum rc q0 a1 σ = some (r0, σ0)) : Met l yX4_readSum [.code yX4_readSum cX4_readSum 6 (some .boolean)] ({ frames := rf + 9, cells := 0, slots := 0, locals := rl + 268 } : Room) (va_Pc [.ref (G.2.2.2 + q0), .int a1] (PreC G skC sz σ)) (QO (PoC G skC σ0) (Aw G.2.2.2 skC.1 sz) (some (.int r0))) 0 0 (Aw G.2.2.2 skC.1 sz) := by
  refine mkMet (by decide +kernel) (Nat.le_of_ble_eq_true rfl) skC_ok ?_
  intro p e s m below meth c ls E hW hl hr hlk
  have hl : lv_has ls 6 [(0, .ref (G.2.2.2 + q0)), (1, .int a1)] := hl
  generalize Aw G.2.2.2 skC.1 s.heap.size = A0 at E hW ⊢
  generalize ([.ref (G.2.2.2 + q0), .int a1] : List Value).toArray = args
  unfold f_X4_readSum at h
  refine lv_iload_n E.1 E.2.1 dX4_readSum_0 rfl (lv_at hl 1 rfl) ?_
  obtain ⟨J3, eJ3, h⟩ := bnd_x h
  have hJ3 : ∀ (q2 : Nat) (σ1 : St) (H : Heap) (locs : List Loc) (ls : Array Slot), J3 q2 σ1 = some (r0, σ0) → Wo G skC A0 s σ1 H locs → lv_has ls 6 [(0, .ref (G.2.2.2 + q2))] → W p l e ({ frames := rf + 9, cells := 0, slots := 0, locals := rl + 268 } : Room) s m args below meth c H locs 0 0 (MQ below (QO (PoC G skC σ0) A0 (some (.int r0))) args s 0 0 A0) (F0 m 9 ls []) := by
    intro q2 σ1 H locs ls h hW hl
    have h := jr2 eJ3 h
    refine lv_aload_n E.1 E.2.1 dX4_readSum_9 rfl (lv_at hl 0 rfl) ?_
    refine lv_bipush (v := (-6 : Int32)) E.1 E.2.1 dX4_readSum_10 (by decide) ?_
    obtain ⟨g4, h⟩ := gd_r h
    obtain ⟨x6, σ5, c7, h⟩ := obn_r h
    refine c_V (As := [.int (-6 : Int32)]) (rest := []) E hW (m_X4_fail c7) g4 rfl kw_417 wv_X4_fail yo_X4_fail ⟨rfl, rfl⟩ ⟨by dsimp only; omega, by dsimp only; omega⟩ (lv_size hl) (Nat.le_of_ble_eq_true rfl) ⟨(Nat.le_of_ble_eq_true rfl), (Nat.le_of_ble_eq_true rfl)⟩ rfl dX4_readSum_12 (fun H locs hW => ?_)
    refine W.eq (g2 := F0 m 15 ls [.int x6]) rfl ?_
    obtain ⟨g8, h⟩ := gd_r h
    exact e_z E hW hr hlk g8 h dX4_readSum_15
  refine lv_if_lt (tgt := 9) E.1 E.2.1 dX4_readSum_1 (by decide) (fun g => ?_) (fun g => ?_)
  · have h := ifp h g
    exact hJ3 _ _ _ _ _ h hW (lv_sub hl [0] rfl)
  · have h := ifn h g
    refine lv_iload_n E.1 E.2.1 dX4_readSum_4 rfl (lv_at hl 1 rfl) ?_
    refine lv_iconst (v := (5 : Int32)) E.1 E.2.1 dX4_readSum_5 (by decide) ?_
    refine lv_icmp_lt (tgt := 16) E.1 E.2.1 dX4_readSum_6 (by decide) (fun g => ?_) (fun g => ?_)
    · have h := ifp h g
      refine lv_aload_n E.1 E.2.1 dX4_readSum_16 rfl (lv_at hl 0 rfl) ?_
      refine lv_iload_n E.1 E.2.1 dX4_readSum_17 rfl (lv_at hl 1 rfl) ?_
      obtain ⟨g9, h⟩ := gd_r h
      obtain ⟨x11, σ10, c12, h⟩ := obn_r h
      refine c_V (As := [.int a1]) (rest := []) E hW (m_X4_readTerm hrc c12) g9 rfl kw_434 wv_X4_readTerm yo_X4_readTerm ⟨rfl, rfl⟩ ⟨by dsimp only; omega, by dsimp only; omega⟩ (lv_size hl) (Nat.le_of_ble_eq_true rfl) ⟨(Nat.le_of_ble_eq_true rfl), (Nat.le_of_ble_eq_true rfl)⟩ rfl dX4_readSum_18 (fun H locs hW => ?_)
      refine W.eq (g2 := F0 m 21 ls [.int x11]) rfl ?_
      refine lv_if_ne (tgt := 26) E.1 E.2.1 dX4_readSum_21 (by decide) (fun g => ?_) (fun g => ?_)
      · have h := ifn h g
        refine lv_aload_n E.1 E.2.1 dX4_readSum_26 rfl (lv_at hl 0 rfl) ?_
        refine gf_X4_34 E hW g9 dX4_readSum_27 ?_
        refine lv_iload_n E.1 E.2.1 dX4_readSum_30 rfl (lv_at hl 1 rfl) ?_
        obtain ⟨g13, h⟩ := gd_r h
        refine r_aald (t := 0) (ty := .object "TaylorModels$Model") E hW (pr_eq g13.1) g13.2 rfl rfl (by decide) dX4_readSum_31 ?_
        refine lv_astore_n (lv' := [(2, .ref (G.2.2.2 + (rC (rC q0 3) a1.toNatClampNeg))), (0, .ref (G.2.2.2 + q0)), (1, .int a1)]) E.1 E.2.1 dX4_readSum_32 rfl hl (by decide) rfl (fun ls hl => ?_)
        refine lv_aload_n E.1 E.2.1 dX4_readSum_33 rfl (lv_at hl 0 rfl) ?_
        refine lv_aload_n E.1 E.2.1 dX4_readSum_34 rfl (lv_at hl 1 rfl) ?_
        refine gf_X4_38 E hW g9 dX4_readSum_35 ?_
        refine lv_iload_n E.1 E.2.1 dX4_readSum_38 rfl (lv_at hl 2 rfl) ?_
        obtain ⟨g14, h⟩ := gd_r h
        refine r_aald (t := 0) (ty := .object "TaylorModels$Model") E hW (pr_eq g14.1) g14.2 rfl rfl (by decide) dX4_readSum_39 ?_
        obtain ⟨g15, h⟩ := gd_r h
        obtain ⟨_r, σ16, c17, h⟩ := obn_r h
        refine c_V (As := [.ref (G.2.2.2 + (rC (rC q0 4) a1.toNatClampNeg))]) (rest := []) E hW (m_X2_copyFrom c17) g15 rfl kw_470 wv_X2_copyFrom yo_X2_copyFrom ⟨rfl, rfl⟩ ⟨by dsimp only; omega, by dsimp only; omega⟩ (lv_size hl) (Nat.le_of_ble_eq_true rfl) ⟨(Nat.le_of_ble_eq_true rfl), (Nat.le_of_ble_eq_true rfl)⟩ rfl dX4_readSum_40 (fun H locs hW => ?_)
        refine W.eq (g2 := F0 m 43 ls []) rfl ?_
        refine lv_iconst (v := (0 : Int32)) E.1 E.2.1 dX4_readSum_43 (by decide) ?_
        refine lv_istore_n (lv' := [(3, .int (0 : Int32)), (2, .ref (G.2.2.2 + (rC (rC q0 3) a1.toNatClampNeg))), (0, .ref (G.2.2.2 + q0)), (1, .int a1)]) E.1 E.2.1 dX4_readSum_44 rfl hl (by decide) rfl (fun ls hl => ?_)
        refine L_X4_readSum_45 hrc E hr hlk ?_ _ _ _ _ _ _ _ _ _ h hW (lv_sub hl [2, 3, 1, 0] rfl)
        · intro q24 σ23 H locs ls h hW hl
          refine lv_aload_n E.1 E.2.1 dX4_readSum_157 rfl (lv_at hl 0 rfl) ?_
          refine lv_bipush (v := (-5 : Int32)) E.1 E.2.1 dX4_readSum_158 (by decide) ?_
          obtain ⟨g68, h⟩ := gd_r h
          obtain ⟨x70, σ69, c71, h⟩ := obn_r h
          refine c_V (As := [.int (-5 : Int32)]) (rest := []) E hW (m_X4_fail c71) g68 rfl kw_417 wv_X4_fail yo_X4_fail ⟨rfl, rfl⟩ ⟨by dsimp only; omega, by dsimp only; omega⟩ (lv_size hl) (Nat.le_of_ble_eq_true rfl) ⟨(Nat.le_of_ble_eq_true rfl), (Nat.le_of_ble_eq_true rfl)⟩ rfl dX4_readSum_160 (fun H locs hW => ?_)
          refine W.eq (g2 := F0 m 163 ls [.int x70]) rfl ?_
          obtain ⟨g72, h⟩ := gd_r h
          exact e_z E hW hr hlk g72 h dX4_readSum_163
      · have h := ifp h g
        refine lv_iconst (v := (0 : Int32)) E.1 E.2.1 dX4_readSum_24 (by decide) ?_
        exact e_z E hW hr hlk (by decide) h dX4_readSum_25
    · have h := ifn h g
      exact hJ3 _ _ _ _ _ h hW (lv_sub hl [0] rfl)
theorem m_X4_readSum_RS {l : Launch} {G : GP} : ∀ (n : Nat) {sz q : Nat} {a0 : Int32} {σ σ0 : St} {r0 : Int32}, f_X4_readSum_RS n q a0 σ = some (r0, σ0) → Met l yX4_readSum [.code yX4_readSum cX4_readSum 6 (some .boolean)] ({ frames := 9 * n, cells := 0, slots := 0, locals := 268 * n } : Room) (va_Pc [.ref (G.2.2.2 + q), .int a0] (PreC G skC sz σ)) (QO (PoC G skC σ0) (Aw G.2.2.2 skC.1 sz) (some (.int r0))) 0 0 (Aw G.2.2.2 skC.1 sz) := by
  intro n
  induction n with
  | zero =>
    intro sz q a0 σ σ0 r0 h
    rw [f_X4_readSum_RS] at h
    cases h
  | succ n ih =>
    intro sz q a0 σ σ0 r0 h
    rw [f_X4_readSum_RS] at h
    exact m_X4_readSum (rf := 9 * n) (rl := 268 * n) (rc := f_X4_readSum_RS n) ih h
theorem m_X4_readSum_RS8 {l : Launch} {G : GP} {sz q : Nat} {a0 : Int32} {σ σ0 : St} {r0 : Int32} (h : f_X4_readSum_RS 8 q a0 σ = some (r0, σ0)) : Met l yX4_readSum [.code yX4_readSum cX4_readSum 6 (some .boolean)] ({ frames := 72, cells := 0, slots := 0, locals := 2144 } : Room) (va_Pc [.ref (G.2.2.2 + q), .int a0] (PreC G skC sz σ)) (QO (PoC G skC σ0) (Aw G.2.2.2 skC.1 sz) (some (.int r0))) 0 0 (Aw G.2.2.2 skC.1 sz) := m_X4_readSum_RS 8 h
set_option maxHeartbeats 4000000 in
set_option maxRecDepth 100000 in
theorem m_X4_readUncertainty {l : Launch} {G : GP} {sz : Nat} {q0 : Nat} {σ σ0 : St} {r0 : Int32} (h : f_X4_readUncertainty q0 σ = some (r0, σ0)) : Met l yX4_readUncertainty [.code yX4_readUncertainty cX4_readUncertainty 1 (some .boolean)] ({ frames := 3, cells := 0, slots := 0, locals := 66 } : Room) (va_Pc [.ref (G.2.2.2 + q0)] (PreC G skC sz σ)) (QO (PoC G skC σ0) (Aw G.2.2.2 skC.1 sz) (some (.int r0))) 0 0 (Aw G.2.2.2 skC.1 sz) := by
  refine mkMet (by decide +kernel) (Nat.le_of_ble_eq_true rfl) skC_ok ?_
  intro p e s m below meth c ls E hW hl hr hlk
  have hl : lv_has ls 1 [(0, .ref (G.2.2.2 + q0))] := hl
  generalize Aw G.2.2.2 skC.1 s.heap.size = A0 at E hW ⊢
  generalize ([.ref (G.2.2.2 + q0)] : List Value).toArray = args
  unfold f_X4_readUncertainty at h
  refine lv_aload_n E.1 E.2.1 dX4_readUncertainty_0 rfl (lv_at hl 0 rfl) ?_
  obtain ⟨g1, h⟩ := gd_r h
  refine gf_X4_14 E hW g1 dX4_readUncertainty_1 ?_
  obtain ⟨g2, h⟩ := gd_r h
  refine gf_X4_72 E hW g2 dX4_readUncertainty_4 ?_
  refine lv_bipush (v := (35 : Int32)) E.1 E.2.1 dX4_readUncertainty_7 (by decide) ?_
  refine lv_icmp_eq (tgt := 14) E.1 E.2.1 dX4_readUncertainty_9 (by decide) (fun g => ?_) (fun g => ?_)
  · have h := ifp h g
    refine lv_aload_n E.1 E.2.1 dX4_readUncertainty_14 rfl (lv_at hl 0 rfl) ?_
    refine gf_X4_14 E hW g1 dX4_readUncertainty_15 ?_
    obtain ⟨_r, σ3, c4, h⟩ := obn_r h
    refine c_V (As := []) (rest := []) E hW (m_X5_advance c4) g2 rfl kw_421 wv_X5_advance yo_X5_advance ⟨rfl, rfl⟩ ⟨(Nat.le_of_ble_eq_true rfl), (Nat.le_of_ble_eq_true rfl)⟩ (lv_size hl) (Nat.le_of_ble_eq_true rfl) ⟨(Nat.le_of_ble_eq_true rfl), (Nat.le_of_ble_eq_true rfl)⟩ rfl dX4_readUncertainty_18 (fun H locs hW => ?_)
    refine W.eq (g2 := F0 m 21 ls []) rfl ?_
    refine lv_aload_n E.1 E.2.1 dX4_readUncertainty_21 rfl (lv_at hl 0 rfl) ?_
    obtain ⟨x6, σ5, c7, h⟩ := obn_r h
    refine c_V (As := []) (rest := []) E hW (m_X4_checkNumber c7) g1 rfl kw_536 wv_X4_checkNumber yo_X4_checkNumber ⟨rfl, rfl⟩ ⟨(Nat.le_of_ble_eq_true rfl), (Nat.le_of_ble_eq_true rfl)⟩ (lv_size hl) (Nat.le_of_ble_eq_true rfl) ⟨(Nat.le_of_ble_eq_true rfl), (Nat.le_of_ble_eq_true rfl)⟩ rfl dX4_readUncertainty_22 (fun H locs hW => ?_)
    refine W.eq (g2 := F0 m 25 ls [.int x6]) rfl ?_
    refine lv_if_ne (tgt := 30) E.1 E.2.1 dX4_readUncertainty_25 (by decide) (fun g => ?_) (fun g => ?_)
    · have h := ifn h g
      refine lv_aload_n E.1 E.2.1 dX4_readUncertainty_30 rfl (lv_at hl 0 rfl) ?_
      refine gf_X4_34 E hW g1 dX4_readUncertainty_31 ?_
      refine lv_iconst (v := (0 : Int32)) E.1 E.2.1 dX4_readUncertainty_34 (by decide) ?_
      obtain ⟨g8, h⟩ := gd_r h
      refine r_aald (t := 0) (ty := .object "TaylorModels$Model") E hW (pr_eq g8.1) g8.2 rfl rfl (by decide) dX4_readUncertainty_35 ?_
      refine lv_aload_n E.1 E.2.1 dX4_readUncertainty_36 rfl (lv_at hl 0 rfl) ?_
      refine gf_X4_14 E hW g1 dX4_readUncertainty_37 ?_
      obtain ⟨x10, σ9, c11, h⟩ := obn_r h
      refine c_V (As := []) (rest := [.ref (G.2.2.2 + (rC (rC q0 3) (0 : Int32).toNatClampNeg))]) E hW (m_X5_number c11) g2 rfl kw_544 wv_X5_number yo_X5_number ⟨rfl, rfl⟩ ⟨(Nat.le_of_ble_eq_true rfl), (Nat.le_of_ble_eq_true rfl)⟩ (lv_size hl) (Nat.le_of_ble_eq_true rfl) ⟨(Nat.le_of_ble_eq_true rfl), (Nat.le_of_ble_eq_true rfl)⟩ rfl dX4_readUncertainty_40 (fun H locs hW => ?_)
      refine W.eq (g2 := F0 m 43 ls [.int x10, .ref (G.2.2.2 + (rC (rC q0 3) (0 : Int32).toNatClampNeg))]) rfl ?_
      refine lv_i2l E.1 E.2.1 dX4_readUncertainty_43 rfl ?_
      obtain ⟨g12, h⟩ := gd_r h
      obtain ⟨_r, σ13, c14, h⟩ := obn_r h
      refine c_V (As := [.long x10.toInt64]) (rest := []) E hW (m_X2_widen c14) g12 rfl kw_610 wv_X2_widen yo_X2_widen ⟨rfl, rfl⟩ ⟨(Nat.le_of_ble_eq_true rfl), (Nat.le_of_ble_eq_true rfl)⟩ (lv_size hl) (Nat.le_of_ble_eq_true rfl) ⟨(Nat.le_of_ble_eq_true rfl), (Nat.le_of_ble_eq_true rfl)⟩ rfl dX4_readUncertainty_44 (fun H locs hW => ?_)
      refine W.eq (g2 := F0 m 47 ls []) rfl ?_
      refine lv_aload_n E.1 E.2.1 dX4_readUncertainty_47 rfl (lv_at hl 0 rfl) ?_
      refine gf_X4_14 E hW g1 dX4_readUncertainty_48 ?_
      obtain ⟨_r, σ15, c16, h⟩ := obn_r h
      refine c_V (As := []) (rest := []) E hW (m_X5_advance c16) g2 rfl kw_421 wv_X5_advance yo_X5_advance ⟨rfl, rfl⟩ ⟨(Nat.le_of_ble_eq_true rfl), (Nat.le_of_ble_eq_true rfl)⟩ (lv_size hl) (Nat.le_of_ble_eq_true rfl) ⟨(Nat.le_of_ble_eq_true rfl), (Nat.le_of_ble_eq_true rfl)⟩ rfl dX4_readUncertainty_51 (fun H locs hW => ?_)
      refine W.eq (g2 := F0 m 54 ls []) rfl ?_
      refine lv_aload_n E.1 E.2.1 dX4_readUncertainty_54 rfl (lv_at hl 0 rfl) ?_
      refine gf_X4_34 E hW g1 dX4_readUncertainty_55 ?_
      refine lv_iconst (v := (0 : Int32)) E.1 E.2.1 dX4_readUncertainty_58 (by decide) ?_
      refine r_aald (t := 0) (ty := .object "TaylorModels$Model") E hW (pr_eq g8.1) g8.2 rfl rfl (by decide) dX4_readUncertainty_59 ?_
      obtain ⟨x18, σ17, c19, h⟩ := obn_r h
      refine c_V (As := []) (rest := []) E hW (m_X2_fits c19) g12 rfl kw_611 wv_X2_fits yo_X2_fits ⟨rfl, rfl⟩ ⟨(Nat.le_of_ble_eq_true rfl), (Nat.le_of_ble_eq_true rfl)⟩ (lv_size hl) (Nat.le_of_ble_eq_true rfl) ⟨(Nat.le_of_ble_eq_true rfl), (Nat.le_of_ble_eq_true rfl)⟩ rfl dX4_readUncertainty_60 (fun H locs hW => ?_)
      refine W.eq (g2 := F0 m 63 ls [.int x18]) rfl ?_
      refine lv_if_ne (tgt := 75) E.1 E.2.1 dX4_readUncertainty_63 (by decide) (fun g => ?_) (fun g => ?_)
      · have h := ifn h g
        refine lv_iconst (v := (1 : Int32)) E.1 E.2.1 dX4_readUncertainty_75 (by decide) ?_
        refine lv_goto (tgt := 80) E.1 E.2.1 dX4_readUncertainty_76 (by decide) ?_
        exact e_z E hW hr hlk (by decide) h dX4_readUncertainty_80
      · have h := ifp h g
        refine lv_aload_n E.1 E.2.1 dX4_readUncertainty_66 rfl (lv_at hl 0 rfl) ?_
        refine lv_bipush (v := (-5 : Int32)) E.1 E.2.1 dX4_readUncertainty_67 (by decide) ?_
        obtain ⟨x21, σ20, c22, h⟩ := obn_r h
        refine c_V (As := [.int (-5 : Int32)]) (rest := []) E hW (m_X4_fail c22) g1 rfl kw_417 wv_X4_fail yo_X4_fail ⟨rfl, rfl⟩ ⟨(Nat.le_of_ble_eq_true rfl), (Nat.le_of_ble_eq_true rfl)⟩ (lv_size hl) (Nat.le_of_ble_eq_true rfl) ⟨(Nat.le_of_ble_eq_true rfl), (Nat.le_of_ble_eq_true rfl)⟩ rfl dX4_readUncertainty_69 (fun H locs hW => ?_)
        refine W.eq (g2 := F0 m 72 ls [.int x21]) rfl ?_
        refine lv_if_eq (tgt := 79) E.1 E.2.1 dX4_readUncertainty_72 (by decide) (fun g => ?_) (fun g => ?_)
        · have h := ifp h g
          refine lv_iconst (v := (0 : Int32)) E.1 E.2.1 dX4_readUncertainty_79 (by decide) ?_
          exact e_z E hW hr hlk (by decide) h dX4_readUncertainty_80
        · have h := ifn h g
          refine lv_iconst (v := (1 : Int32)) E.1 E.2.1 dX4_readUncertainty_75 (by decide) ?_
          refine lv_goto (tgt := 80) E.1 E.2.1 dX4_readUncertainty_76 (by decide) ?_
          exact e_z E hW hr hlk (by decide) h dX4_readUncertainty_80
    · have h := ifp h g
      refine lv_iconst (v := (0 : Int32)) E.1 E.2.1 dX4_readUncertainty_28 (by decide) ?_
      exact e_z E hW hr hlk (by decide) h dX4_readUncertainty_29
  · have h := ifn h g
    refine lv_iconst (v := (1 : Int32)) E.1 E.2.1 dX4_readUncertainty_12 (by decide) ?_
    exact e_z E hW hr hlk (by decide) h dX4_readUncertainty_13
set_option maxHeartbeats 4000000 in
set_option maxRecDepth 100000 in
theorem L_X4_readSetup_55 {p : Program} {l : Launch} {e : Env} {s : State} {m : MethodId} {args : Array Value} {below : List Frame} {meth : Method} {c : Code} {G : GP} {A0 : Nat → Prop} {σ0 : St} {r0 : Int32} {K84 : Nat → St → Option (Int32 × St)} (E : En p m c s cX4_readSetup 4 yX4_readSetup.cls G A0) (hr : meth.sig.returnType = (some .boolean)) (hlk : meth.locks = false) (hK84 : ∀ (q19 : Nat) (σ18 : St) (H : Heap) (locs : List Loc) (ls : Array Slot), K84 q19 σ18 = some (r0, σ0) → Wo G skC A0 s σ18 H locs → lv_has ls 4 [(0, .ref (G.2.2.2 + q19))] → W p l e ({ frames := 73, cells := 0, slots := 0, locals := 2169 } : Room) s m args below meth c H locs 0 0 (MQ below (QO (PoC G skC σ0) A0 (some (.int r0))) args s 0 0 A0) (F0 m 84 ls [])) : ∀ (n20 : Nat) (q16 : Nat) (x17 : Int32) (σ15 : St) (H : Heap) (locs : List Loc) (ls : Array Slot), f_X4_readSetup_L55 K84 n20 q16 x17 σ15 = some (r0, σ0) → Wo G skC A0 s σ15 H locs → lv_has ls 4 [(0, .ref (G.2.2.2 + q16)), (2, .int x17)] → W p l e ({ frames := 73, cells := 0, slots := 0, locals := 2169 } : Room) s m args below meth c H locs 0 0 (MQ below (QO (PoC G skC σ0) A0 (some (.int r0))) args s 0 0 A0) (F0 m 55 ls []) := by
  intro n20
  induction n20 with
  | zero =>
    intro q16 x17 σ15 H locs ls h hW hl
    rw [f_X4_readSetup_L55] at h
    cases h
  | succ n20 ih =>
    intro q16 x17 σ15 H locs ls h hW hl
    rw [f_X4_readSetup_L55] at h
    refine lv_iload_n E.1 E.2.1 dX4_readSetup_55 rfl (lv_at hl 1 rfl) ?_
    refine lv_sipush (v := (700 : Int32)) E.1 E.2.1 dX4_readSetup_56 (by decide) ?_
    refine lv_icmp_ge (tgt := 153) E.1 E.2.1 dX4_readSetup_59 (by decide) (fun g => ?_) (fun g => ?_)
    · have h := ifp h g
      refine lv_iconst (v := (1 : Int32)) E.1 E.2.1 dX4_readSetup_153 (by decide) ?_
      exact e_z E hW hr hlk (by decide) h dX4_readSetup_154
    · have h := ifn h g
      refine lv_aload_n E.1 E.2.1 dX4_readSetup_62 rfl (lv_at hl 0 rfl) ?_
      obtain ⟨g21, h⟩ := gd_r h
      refine gf_X4_14 E hW g21 dX4_readSetup_63 ?_
      obtain ⟨g22, h⟩ := gd_r h
      refine gf_X4_72 E hW g22 dX4_readSetup_66 ?_
      refine lv_if_lt (tgt := 153) E.1 E.2.1 dX4_readSetup_69 (by decide) (fun g => ?_) (fun g => ?_)
      · have h := ifp h g
        refine lv_iconst (v := (1 : Int32)) E.1 E.2.1 dX4_readSetup_153 (by decide) ?_
        exact e_z E hW hr hlk (by decide) h dX4_readSetup_154
      · have h := ifn h g
        refine lv_aload_n E.1 E.2.1 dX4_readSetup_72 rfl (lv_at hl 0 rfl) ?_
        refine gf_X4_14 E hW g21 dX4_readSetup_73 ?_
        obtain ⟨x24, σ23, c25, h⟩ := obn_r h
        refine c_V (As := []) (rest := []) E hW (m_X5_name c25) g22 rfl kw_426 wv_X5_name yo_X5_name ⟨rfl, rfl⟩ ⟨(Nat.le_of_ble_eq_true rfl), (Nat.le_of_ble_eq_true rfl)⟩ (lv_size hl) (Nat.le_of_ble_eq_true rfl) ⟨(Nat.le_of_ble_eq_true rfl), (Nat.le_of_ble_eq_true rfl)⟩ rfl dX4_readSetup_76 (fun H locs hW => ?_)
        refine W.eq (g2 := F0 m 79 ls [.int x24]) rfl ?_
        refine lv_istore_n (lv' := [(3, .int x24), (0, .ref (G.2.2.2 + q16)), (2, .int x17)]) E.1 E.2.1 dX4_readSetup_79 rfl hl (by decide) rfl (fun ls hl => ?_)
        refine lv_iload_n E.1 E.2.1 dX4_readSetup_80 rfl (lv_at hl 0 rfl) ?_
        refine lv_if_ge (tgt := 91) E.1 E.2.1 dX4_readSetup_81 (by decide) (fun g => ?_) (fun g => ?_)
        · have h := ifp h g
          refine lv_aload_n E.1 E.2.1 dX4_readSetup_91 rfl (lv_at hl 1 rfl) ?_
          refine gf_X4_14 E hW g21 dX4_readSetup_92 ?_
          obtain ⟨_r, σ26, c27, h⟩ := obn_r h
          refine c_V (As := []) (rest := []) E hW (m_X5_advance c27) g22 rfl kw_421 wv_X5_advance yo_X5_advance ⟨rfl, rfl⟩ ⟨(Nat.le_of_ble_eq_true rfl), (Nat.le_of_ble_eq_true rfl)⟩ (lv_size hl) (Nat.le_of_ble_eq_true rfl) ⟨(Nat.le_of_ble_eq_true rfl), (Nat.le_of_ble_eq_true rfl)⟩ rfl dX4_readSetup_95 (fun H locs hW => ?_)
          refine W.eq (g2 := F0 m 98 ls []) rfl ?_
          refine lv_aload_n E.1 E.2.1 dX4_readSetup_98 rfl (lv_at hl 1 rfl) ?_
          refine lv_bipush (v := (61 : Int32)) E.1 E.2.1 dX4_readSetup_99 (by decide) ?_
          obtain ⟨x29, σ28, c30, h⟩ := obn_r h
          refine c_V (As := [.int (61 : Int32)]) (rest := []) E hW (m_X4_take c30) g21 rfl kw_422 wv_X4_take yo_X4_take ⟨rfl, rfl⟩ ⟨(Nat.le_of_ble_eq_true rfl), (Nat.le_of_ble_eq_true rfl)⟩ (lv_size hl) (Nat.le_of_ble_eq_true rfl) ⟨(Nat.le_of_ble_eq_true rfl), (Nat.le_of_ble_eq_true rfl)⟩ rfl dX4_readSetup_101 (fun H locs hW => ?_)
          refine W.eq (g2 := F0 m 104 ls [.int x29]) rfl ?_
          refine lv_if_eq (tgt := 131) E.1 E.2.1 dX4_readSetup_104 (by decide) (fun g => ?_) (fun g => ?_)
          · have h := ifp h g
            refine lv_iconst (v := (0 : Int32)) E.1 E.2.1 dX4_readSetup_131 (by decide) ?_
            exact e_z E hW hr hlk (by decide) h dX4_readSetup_132
          · have h := ifn h g
            refine lv_aload_n E.1 E.2.1 dX4_readSetup_107 rfl (lv_at hl 1 rfl) ?_
            refine lv_iconst (v := (0 : Int32)) E.1 E.2.1 dX4_readSetup_108 (by decide) ?_
            obtain ⟨x32, σ31, c33, h⟩ := obn_r h
            refine c_V (As := [.int (0 : Int32)]) (rest := []) E hW (m_X4_readSum_RS8 c33) g21 rfl kw_430 wv_X4_readSum yo_X4_readSum ⟨rfl, rfl⟩ ⟨(Nat.le_of_ble_eq_true rfl), (Nat.le_of_ble_eq_true rfl)⟩ (lv_size hl) (Nat.le_of_ble_eq_true rfl) ⟨(Nat.le_of_ble_eq_true rfl), (Nat.le_of_ble_eq_true rfl)⟩ rfl dX4_readSetup_109 (fun H locs hW => ?_)
            refine W.eq (g2 := F0 m 112 ls [.int x32]) rfl ?_
            refine lv_if_eq (tgt := 131) E.1 E.2.1 dX4_readSetup_112 (by decide) (fun g => ?_) (fun g => ?_)
            · have h := ifp h g
              refine lv_iconst (v := (0 : Int32)) E.1 E.2.1 dX4_readSetup_131 (by decide) ?_
              exact e_z E hW hr hlk (by decide) h dX4_readSetup_132
            · have h := ifn h g
              refine lv_aload_n E.1 E.2.1 dX4_readSetup_115 rfl (lv_at hl 1 rfl) ?_
              obtain ⟨x35, σ34, c36, h⟩ := obn_r h
              refine c_V (As := []) (rest := []) E hW (m_X4_readUncertainty c36) g21 rfl kw_606 wv_X4_readUncertainty yo_X4_readUncertainty ⟨rfl, rfl⟩ ⟨(Nat.le_of_ble_eq_true rfl), (Nat.le_of_ble_eq_true rfl)⟩ (lv_size hl) (Nat.le_of_ble_eq_true rfl) ⟨(Nat.le_of_ble_eq_true rfl), (Nat.le_of_ble_eq_true rfl)⟩ rfl dX4_readSetup_116 (fun H locs hW => ?_)
              refine W.eq (g2 := F0 m 119 ls [.int x35]) rfl ?_
              refine lv_if_eq (tgt := 131) E.1 E.2.1 dX4_readSetup_119 (by decide) (fun g => ?_) (fun g => ?_)
              · have h := ifp h g
                refine lv_iconst (v := (0 : Int32)) E.1 E.2.1 dX4_readSetup_131 (by decide) ?_
                exact e_z E hW hr hlk (by decide) h dX4_readSetup_132
              · have h := ifn h g
                refine lv_aload_n E.1 E.2.1 dX4_readSetup_122 rfl (lv_at hl 1 rfl) ?_
                refine lv_bipush (v := (59 : Int32)) E.1 E.2.1 dX4_readSetup_123 (by decide) ?_
                obtain ⟨x38, σ37, c39, h⟩ := obn_r h
                refine c_V (As := [.int (59 : Int32)]) (rest := []) E hW (m_X4_take c39) g21 rfl kw_422 wv_X4_take yo_X4_take ⟨rfl, rfl⟩ ⟨(Nat.le_of_ble_eq_true rfl), (Nat.le_of_ble_eq_true rfl)⟩ (lv_size hl) (Nat.le_of_ble_eq_true rfl) ⟨(Nat.le_of_ble_eq_true rfl), (Nat.le_of_ble_eq_true rfl)⟩ rfl dX4_readSetup_125 (fun H locs hW => ?_)
                refine W.eq (g2 := F0 m 128 ls [.int x38]) rfl ?_
                refine lv_if_ne (tgt := 133) E.1 E.2.1 dX4_readSetup_128 (by decide) (fun g => ?_) (fun g => ?_)
                · have h := ifn h g
                  refine lv_aload_n E.1 E.2.1 dX4_readSetup_133 rfl (lv_at hl 1 rfl) ?_
                  refine gf_X4_21 E hW g21 dX4_readSetup_134 ?_
                  refine lv_iload_n E.1 E.2.1 dX4_readSetup_137 rfl (lv_at hl 0 rfl) ?_
                  refine lv_aload_n E.1 E.2.1 dX4_readSetup_138 rfl (lv_at hl 1 rfl) ?_
                  refine gf_X4_34 E hW g21 dX4_readSetup_139 ?_
                  refine lv_iconst (v := (0 : Int32)) E.1 E.2.1 dX4_readSetup_142 (by decide) ?_
                  obtain ⟨g40, h⟩ := gd_r h
                  refine r_aald (t := 0) (ty := .object "TaylorModels$Model") E hW (pr_eq g40.1) g40.2 rfl rfl (by decide) dX4_readSetup_143 ?_
                  obtain ⟨g41, h⟩ := gd_r h
                  obtain ⟨_r, σ42, c43, h⟩ := obn_r h
                  refine c_V (As := [.int x24, .ref (G.2.2.2 + (rC (rC q16 3) (0 : Int32).toNatClampNeg))]) (rest := []) E hW (m_X3_define c43) g41 rfl kw_612 wv_X3_define yo_X3_define ⟨rfl, rfl⟩ ⟨(Nat.le_of_ble_eq_true rfl), (Nat.le_of_ble_eq_true rfl)⟩ (lv_size hl) (Nat.le_of_ble_eq_true rfl) ⟨(Nat.le_of_ble_eq_true rfl), (Nat.le_of_ble_eq_true rfl)⟩ rfl dX4_readSetup_144 (fun H locs hW => ?_)
                  refine W.eq (g2 := F0 m 147 ls []) rfl ?_
                  obtain ⟨x44, ex44⟩ : ∃ y : Int32, y = x17 + (1 : Int32) := ⟨_, rfl⟩
                  have h := bnd_r ex44 h
                  refine lv_iinc (v := x44) (lv' := [(2, .int x44), (3, .int x24), (0, .ref (G.2.2.2 + q16))]) E.1 E.2.1 dX4_readSetup_147 hl (k := 2) rfl (by rw [ex44]; rfl) (by decide) rfl (fun ls hl => ?_)
                  refine lv_goto (tgt := 55) E.1 E.2.1 dX4_readSetup_150 (by decide) ?_
                  exact ih _ _ _ _ _ _ h hW (lv_sub hl [2, 0] rfl)
                · have h := ifp h g
                  refine lv_iconst (v := (0 : Int32)) E.1 E.2.1 dX4_readSetup_131 (by decide) ?_
                  exact e_z E hW hr hlk (by decide) h dX4_readSetup_132
        · have h := ifn h g
          exact hK84 _ _ _ _ _ h hW (lv_sub hl [1] rfl)
set_option maxHeartbeats 4000000 in
set_option maxRecDepth 100000 in
theorem m_X4_readSetup {l : Launch} {G : GP} {sz : Nat} {q0 : Nat} {a1 : Int32} {σ σ0 : St} {r0 : Int32} (h : f_X4_readSetup q0 a1 σ = some (r0, σ0)) : Met l yX4_readSetup [.code yX4_readSetup cX4_readSetup 4 (some .boolean)] ({ frames := 73, cells := 0, slots := 0, locals := 2169 } : Room) (va_Pc [.ref (G.2.2.2 + q0), .int a1] (PreC G skC sz σ)) (QO (PoC G skC σ0) (Aw G.2.2.2 skC.1 sz) (some (.int r0))) 0 0 (Aw G.2.2.2 skC.1 sz) := by
  refine mkMet (by decide +kernel) (Nat.le_of_ble_eq_true rfl) skC_ok ?_
  intro p e s m below meth c ls E hW hl hr hlk
  have hl : lv_has ls 4 [(0, .ref (G.2.2.2 + q0)), (1, .int a1)] := hl
  generalize Aw G.2.2.2 skC.1 s.heap.size = A0 at E hW ⊢
  generalize ([.ref (G.2.2.2 + q0), .int a1] : List Value).toArray = args
  unfold f_X4_readSetup at h
  refine lv_aload_n E.1 E.2.1 dX4_readSetup_0 rfl (lv_at hl 0 rfl) ?_
  obtain ⟨g1, h⟩ := gd_r h
  refine gf_X4_21 E hW g1 dX4_readSetup_1 ?_
  refine lv_iconst (v := (0 : Int32)) E.1 E.2.1 dX4_readSetup_4 (by decide) ?_
  obtain ⟨g2, h⟩ := gd_r h
  refine pf_X4_48 E hW g2 dX4_readSetup_5 (fun σ3 H locs eσ3 hW => ?_)
  have h := bnd_r eσ3 h
  refine lv_aload_n E.1 E.2.1 dX4_readSetup_8 rfl (lv_at hl 0 rfl) ?_
  refine gf_X4_14 E hW g1 dX4_readSetup_9 ?_
  refine lv_iload_n E.1 E.2.1 dX4_readSetup_12 rfl (lv_at hl 1 rfl) ?_
  obtain ⟨g4, h⟩ := gd_r h
  obtain ⟨_r, σ5, c6, h⟩ := obn_r h
  refine c_V (As := [.int a1]) (rest := []) E hW (m_X5_split c6) g4 rfl kw_353 wv_X5_split yo_X5_split ⟨rfl, rfl⟩ ⟨(Nat.le_of_ble_eq_true rfl), (Nat.le_of_ble_eq_true rfl)⟩ (lv_size hl) (Nat.le_of_ble_eq_true rfl) ⟨(Nat.le_of_ble_eq_true rfl), (Nat.le_of_ble_eq_true rfl)⟩ rfl dX4_readSetup_13 (fun H locs hW => ?_)
  refine W.eq (g2 := F0 m 16 ls []) rfl ?_
  refine lv_aload_n E.1 E.2.1 dX4_readSetup_16 rfl (lv_at hl 0 rfl) ?_
  refine gf_X4_14 E hW g1 dX4_readSetup_17 ?_
  refine r_ldcS E 0 (by decide) ⟨rfl, rfl⟩ dX4_readSetup_20 ?_
  obtain ⟨x8, σ7, c9, h⟩ := obn_r h
  refine c_V (As := [.ref (G.2.2.1 0)]) (rest := []) E hW (m_X5_isWord c9) g4 rfl kw_365 wv_X5_isWord yo_X5_isWord ⟨rfl, rfl⟩ ⟨(Nat.le_of_ble_eq_true rfl), (Nat.le_of_ble_eq_true rfl)⟩ (lv_size hl) (Nat.le_of_ble_eq_true rfl) ⟨(Nat.le_of_ble_eq_true rfl), (Nat.le_of_ble_eq_true rfl)⟩ rfl dX4_readSetup_22 (fun H locs hW => ?_)
  refine W.eq (g2 := F0 m 25 ls [.int x8]) rfl ?_
  refine lv_if_ne (tgt := 35) E.1 E.2.1 dX4_readSetup_25 (by decide) (fun g => ?_) (fun g => ?_)
  · have h := ifn h g
    refine lv_aload_n E.1 E.2.1 dX4_readSetup_35 rfl (lv_at hl 0 rfl) ?_
    refine gf_X4_14 E hW g1 dX4_readSetup_36 ?_
    obtain ⟨_r, σ10, c11, h⟩ := obn_r h
    refine c_V (As := []) (rest := []) E hW (m_X5_advance c11) g4 rfl kw_421 wv_X5_advance yo_X5_advance ⟨rfl, rfl⟩ ⟨(Nat.le_of_ble_eq_true rfl), (Nat.le_of_ble_eq_true rfl)⟩ (lv_size hl) (Nat.le_of_ble_eq_true rfl) ⟨(Nat.le_of_ble_eq_true rfl), (Nat.le_of_ble_eq_true rfl)⟩ rfl dX4_readSetup_39 (fun H locs hW => ?_)
    refine W.eq (g2 := F0 m 42 ls []) rfl ?_
    refine lv_aload_n E.1 E.2.1 dX4_readSetup_42 rfl (lv_at hl 0 rfl) ?_
    refine lv_bipush (v := (59 : Int32)) E.1 E.2.1 dX4_readSetup_43 (by decide) ?_
    obtain ⟨x13, σ12, c14, h⟩ := obn_r h
    refine c_V (As := [.int (59 : Int32)]) (rest := []) E hW (m_X4_take c14) g1 rfl kw_422 wv_X4_take yo_X4_take ⟨rfl, rfl⟩ ⟨(Nat.le_of_ble_eq_true rfl), (Nat.le_of_ble_eq_true rfl)⟩ (lv_size hl) (Nat.le_of_ble_eq_true rfl) ⟨(Nat.le_of_ble_eq_true rfl), (Nat.le_of_ble_eq_true rfl)⟩ rfl dX4_readSetup_45 (fun H locs hW => ?_)
    refine W.eq (g2 := F0 m 48 ls [.int x13]) rfl ?_
    refine lv_if_ne (tgt := 53) E.1 E.2.1 dX4_readSetup_48 (by decide) (fun g => ?_) (fun g => ?_)
    · have h := ifn h g
      refine lv_iconst (v := (0 : Int32)) E.1 E.2.1 dX4_readSetup_53 (by decide) ?_
      refine lv_istore_n (lv' := [(2, .int (0 : Int32)), (0, .ref (G.2.2.2 + q0)), (1, .int a1)]) E.1 E.2.1 dX4_readSetup_54 rfl hl (by decide) rfl (fun ls hl => ?_)
      refine L_X4_readSetup_55 E hr hlk ?_ _ _ _ _ _ _ _ h hW (lv_sub hl [1, 0] rfl)
      · intro q19 σ18 H locs ls h hW hl
        refine lv_aload_n E.1 E.2.1 dX4_readSetup_84 rfl (lv_at hl 0 rfl) ?_
        refine lv_bipush (v := (-2 : Int32)) E.1 E.2.1 dX4_readSetup_85 (by decide) ?_
        obtain ⟨g45, h⟩ := gd_r h
        obtain ⟨x47, σ46, c48, h⟩ := obn_r h
        refine c_V (As := [.int (-2 : Int32)]) (rest := []) E hW (m_X4_fail c48) g45 rfl kw_417 wv_X4_fail yo_X4_fail ⟨rfl, rfl⟩ ⟨(Nat.le_of_ble_eq_true rfl), (Nat.le_of_ble_eq_true rfl)⟩ (lv_size hl) (Nat.le_of_ble_eq_true rfl) ⟨(Nat.le_of_ble_eq_true rfl), (Nat.le_of_ble_eq_true rfl)⟩ rfl dX4_readSetup_87 (fun H locs hW => ?_)
        refine W.eq (g2 := F0 m 90 ls [.int x47]) rfl ?_
        obtain ⟨g49, h⟩ := gd_r h
        exact e_z E hW hr hlk g49 h dX4_readSetup_90
    · have h := ifp h g
      refine lv_iconst (v := (0 : Int32)) E.1 E.2.1 dX4_readSetup_51 (by decide) ?_
      exact e_z E hW hr hlk (by decide) h dX4_readSetup_52
  · have h := ifp h g
    refine lv_aload_n E.1 E.2.1 dX4_readSetup_28 rfl (lv_at hl 0 rfl) ?_
    refine lv_bipush (v := (-2 : Int32)) E.1 E.2.1 dX4_readSetup_29 (by decide) ?_
    obtain ⟨x51, σ50, c52, h⟩ := obn_r h
    refine c_V (As := [.int (-2 : Int32)]) (rest := []) E hW (m_X4_fail c52) g1 rfl kw_417 wv_X4_fail yo_X4_fail ⟨rfl, rfl⟩ ⟨(Nat.le_of_ble_eq_true rfl), (Nat.le_of_ble_eq_true rfl)⟩ (lv_size hl) (Nat.le_of_ble_eq_true rfl) ⟨(Nat.le_of_ble_eq_true rfl), (Nat.le_of_ble_eq_true rfl)⟩ rfl dX4_readSetup_31 (fun H locs hW => ?_)
    refine W.eq (g2 := F0 m 34 ls [.int x51]) rfl ?_
    obtain ⟨g53, h⟩ := gd_r h
    exact e_z E hW hr hlk g53 h dX4_readSetup_34
