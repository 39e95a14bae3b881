def f_X2_width (q0 : Nat) (σ : St) : Option (Int32 × St) := gd (kC q0 = (0, 2)) <| some ((((σ.2 q0 2) - (σ.2 q0 1))).toInt32, σ)
def f_X2_fits_L2 (K42 : Nat → St → Option (Int32 × St)) : Nat → Nat → Int32 → St → Option (Int32 × St)
  | 0, _, _, _ => none
  | n6 + 1, q2, x3, σ1 => if (10 : Int32) ≤ x3 then (K42 q2 σ1) else (gd (kC q2 = (0, 2)) <| gd ((kC (rC q2 0)).1 = 2 ∧ ¬ (x3 < 0 ∨ (kC (rC q2 0)).2 ≤ x3.toNatClampNeg)) <| if (σ1.2 (rC q2 0) x3.toNatClampNeg) < (-100000000 : Int64) then (some ((0 : Int32), σ1)) else (if (100000000 : Int64) < (σ1.2 (rC q2 0) x3.toNatClampNeg) then (some ((0 : Int32), σ1)) else (bnd (x3 + (1 : Int32)) fun x9 => f_X2_fits_L2 K42 n6 q2 x9 σ1)))
def f_X2_fits (q0 : Nat) (σ : St) : Option (Int32 × St) := f_X2_fits_L2 (fun (q5 : Nat) (σ4 : St) => gd (kC q5 = (0, 2)) <| if (σ4.2 q5 1) < (-100000000 : Int64) then (some ((0 : Int32), σ4)) else (if (100000000 : Int64) < (σ4.2 q5 1) then (some ((0 : Int32), σ4)) else (if (σ4.2 q5 2) < (-100000000 : Int64) then (some ((0 : Int32), σ4)) else (if (100000000 : Int64) < (σ4.2 q5 2) then (some ((0 : Int32), σ4)) else (some ((1 : Int32), σ4)))))) FU q0 (0 : Int32) σ
def f_X6_lowestOf (a0 : Int32) (a1 : Int32) (σ : St) : Option (Int32 × St) := bnd (fun (x2 : Int32) (x3 : Int32) (σ1 : St) => if (x2 &&& (1 : Int32)) = 0 then (if (x3 &&& (1 : Int32)) = 0 then (some ((0 : Int32), σ1)) else (some ((-1 : Int32), σ1))) else (some ((-1 : Int32), σ1))) fun J4 => if a0 = 0 then (if a1 = 0 then (some ((1 : Int32), σ)) else (J4 a0 a1 σ)) else (J4 a0 a1 σ)
def f_X6_rangeLow (a0 : Int64) (a2 : Int32) (σ : St) : Option (Int64 × St) := some ((mnJ (a0 * a2.toInt64) a0), σ)
def f_X2_spreadLow_L4 : Nat → Nat → Int64 → Int32 → St → Option (Int64 × St)
  | 0, _, _, _, _ => none
  | n5 + 1, q2, x3, x4, σ1 => if (10 : Int32) ≤ x4 then (some (x3, σ1)) else (gd (kC q2 = (0, 2)) <| gd ((kC (rC q2 0)).1 = 2 ∧ ¬ (x4 < 0 ∨ (kC (rC q2 0)).2 ≤ x4.toNatClampNeg)) <| gd (¬ (x4 < 0 ∨ (stL 3).length ≤ x4.toNatClampNeg)) <| bnd ((x3 + (mnJ ((σ1.2 (rC q2 0) x4.toNatClampNeg) * (((stL 3).getD x4.toNatClampNeg 0)).toInt64) (σ1.2 (rC q2 0) x4.toNatClampNeg)))) fun x10 => bnd (x4 + (1 : Int32)) fun x11 => f_X2_spreadLow_L4 n5 q2 x10 x11 σ1)
def f_X2_spreadLow (q0 : Nat) (σ : St) : Option (Int64 × St) := f_X2_spreadLow_L4 FU q0 (0 : Int64) (0 : Int32) σ
set_option maxHeartbeats 4000000 in
set_option maxRecDepth 100000 in
theorem m_X2_width {l : Launch} {G : GP} {sz : Nat} {q0 : Nat} {σ σ0 : St} {r0 : Int32} (h : f_X2_width q0 σ = some (r0, σ0)) : Met l yX2_width [.code yX2_width cX2_width 1 (some .int)] ({ frames := 0, cells := 0, slots := 0, locals := 0 } : Room) (va_Pc [.ref (G.2.2.2 + q0)] (PreC G skC sz σ)) (QO (PoC G skC σ0) (Aw G.2.2.2 skC.1 sz) (some (.int r0))) 0 0 (Aw G.2.2.2 skC.1 sz) := by
  refine mkMet (by decide +kernel) (Nat.le_of_ble_eq_true rfl) skC_ok ?_
  intro p e s m below meth c ls E hW hl hr hlk
  have hl : lv_has ls 1 [(0, .ref (G.2.2.2 + q0))] := hl
  generalize Aw G.2.2.2 skC.1 s.heap.size = A0 at E hW ⊢
  generalize ([.ref (G.2.2.2 + q0)] : List Value).toArray = args
  unfold f_X2_width at h
  refine lv_aload_n E.1 E.2.1 dX2_width_0 rfl (lv_at hl 0 rfl) ?_
  obtain ⟨g1, h⟩ := gd_r h
  refine gf_X2_25 E hW g1 dX2_width_1 ?_
  refine lv_aload_n E.1 E.2.1 dX2_width_4 rfl (lv_at hl 0 rfl) ?_
  refine gf_X2_21 E hW g1 dX2_width_5 ?_
  refine lv_lsub E.1 E.2.1 dX2_width_8 ?_
  refine lv_l2i E.1 E.2.1 dX2_width_9 rfl ?_
  exact e_i E hW hr hlk h dX2_width_10
set_option maxHeartbeats 4000000 in
set_option maxRecDepth 100000 in
theorem L_X2_fits_2 {p : Program} {l : Launch} {e : Env} {s : State} {m : MethodId} {args : Array Value} {below : List Frame} {meth : Method} {c : Code} {G : GP} {A0 : Nat → Prop} {σ0 : St} {r0 : Int32} {K42 : Nat → St → Option (Int32 × St)} (E : En p m c s cX2_fits 2 yX2_fits.cls G A0) (hr : meth.sig.returnType = (some .boolean)) (hlk : meth.locks = false) (hK42 : ∀ (q5 : Nat) (σ4 : St) (H : Heap) (locs : List Loc) (ls : Array Slot), K42 q5 σ4 = some (r0, σ0) → Wo G skC A0 s σ4 H locs → lv_has ls 2 [(0, .ref (G.2.2.2 + q5))] → W p l e ({ frames := 0, cells := 0, slots := 0, locals := 0 } : Room) s m args below meth c H locs 0 0 (MQ below (QO (PoC G skC σ0) A0 (some (.int r0))) args s 0 0 A0) (F0 m 42 ls [])) : ∀ (n6 : Nat) (q2 : Nat) (x3 : Int32) (σ1 : St) (H : Heap) (locs : List Loc) (ls : Array Slot), f_X2_fits_L2 K42 n6 q2 x3 σ1 = some (r0, σ0) → Wo G skC A0 s σ1 H locs → lv_has ls 2 [(0, .ref (G.2.2.2 + q2)), (1, .int x3)] → W p l e ({ frames := 0, cells := 0, slots := 0, locals := 0 } : Room) s m args below meth c H locs 0 0 (MQ below (QO (PoC G skC σ0) A0 (some (.int r0))) args s 0 0 A0) (F0 m 2 ls []) := by
  intro n6
  induction n6 with
  | zero =>
    intro q2 x3 σ1 H locs ls h hW hl
    rw [f_X2_fits_L2] at h
    cases h
  | succ n6 ih =>
    intro q2 x3 σ1 H locs ls h hW hl
    rw [f_X2_fits_L2] at h
    refine lv_iload_n E.1 E.2.1 dX2_fits_2 rfl (lv_at hl 1 rfl) ?_
    refine lv_bipush (v := (10 : Int32)) E.1 E.2.1 dX2_fits_3 (by decide) ?_
    refine lv_icmp_ge (tgt := 42) E.1 E.2.1 dX2_fits_5 (by decide) (fun g => ?_) (fun g => ?_)
    · have h := ifp h g
      exact hK42 _ _ _ _ _ h hW (lv_sub hl [0] rfl)
    · have h := ifn h g
      refine lv_aload_n E.1 E.2.1 dX2_fits_8 rfl (lv_at hl 0 rfl) ?_
      obtain ⟨g7, h⟩ := gd_r h
      refine gf_X2_9 E hW g7 dX2_fits_9 ?_
      refine lv_iload_n E.1 E.2.1 dX2_fits_12 rfl (lv_at hl 1 rfl) ?_
      obtain ⟨g8, h⟩ := gd_r h
      refine r_lald E hW (pr_eq g8.1) g8.2 dX2_fits_13 ?_
      refine lv_ldc2 (v := (-100000000 : Int64)) E.1 E.2.1 E.2.2.2.1 (E.wd kw_530) dX2_fits_14 ?_
      refine r_lc_lt E dX2_fits_17 dX2_fits_18 (tgt := 34) (by decide) (fun g => ?_) (fun g => ?_)
      · have h := ifp h g
        refine lv_iconst (v := (0 : Int32)) E.1 E.2.1 dX2_fits_34 (by decide) ?_
        exact e_z E hW hr hlk (by decide) h dX2_fits_35
      · have h := ifn h g
        refine lv_aload_n E.1 E.2.1 dX2_fits_21 rfl (lv_at hl 0 rfl) ?_
        refine gf_X2_9 E hW g7 dX2_fits_22 ?_
        refine lv_iload_n E.1 E.2.1 dX2_fits_25 rfl (lv_at hl 1 rfl) ?_
        refine r_lald E hW (pr_eq g8.1) g8.2 dX2_fits_26 ?_
        refine lv_ldc2 (v := (100000000 : Int64)) E.1 E.2.1 E.2.2.2.1 (E.wd kw_531) dX2_fits_27 ?_
        refine r_lc_le E dX2_fits_30 dX2_fits_31 (tgt := 36) (by decide) (fun g => ?_) (fun g => ?_)
        · have h := ifn h g
          obtain ⟨x9, ex9⟩ : ∃ y : Int32, y = x3 + (1 : Int32) := ⟨_, rfl⟩
          have h := bnd_r ex9 h
          refine lv_iinc (v := x9) (lv' := [(1, .int x9), (0, .ref (G.2.2.2 + q2))]) E.1 E.2.1 dX2_fits_36 hl (k := 1) rfl (by rw [ex9]; rfl) (by decide) rfl (fun ls hl => ?_)
          refine lv_goto (tgt := 2) E.1 E.2.1 dX2_fits_39 (by decide) ?_
          exact ih _ _ _ _ _ _ h hW (lv_sub hl [1, 0] rfl)
        · have h := ifp h g
          refine lv_iconst (v := (0 : Int32)) E.1 E.2.1 dX2_fits_34 (by decide) ?_
          exact e_z E hW hr hlk (by decide) h dX2_fits_35
set_option maxHeartbeats 4000000 in
set_option maxRecDepth 100000 in
theorem m_X2_fits {l : Launch} {G : GP} {sz : Nat} {q0 : Nat} {σ σ0 : St} {r0 : Int32} (h : f_X2_fits q0 σ = some (r0, σ0)) : Met l yX2_fits [.code yX2_fits cX2_fits 2 (some .boolean)] ({ frames := 0, cells := 0, slots := 0, locals := 0 } : Room) (va_Pc [.ref (G.2.2.2 + q0)] (PreC G skC sz σ)) (QO (PoC G skC σ0) (Aw G.2.2.2 skC.1 sz) (some (.int r0))) 0 0 (Aw G.2.2.2 skC.1 sz) := by
  refine mkMet (by decide +kernel) (Nat.le_of_ble_eq_true rfl) skC_ok ?_
  intro p e s m below meth c ls E hW hl hr hlk
  have hl : lv_has ls 2 [(0, .ref (G.2.2.2 + q0))] := hl
  generalize Aw G.2.2.2 skC.1 s.heap.size = A0 at E hW ⊢
  generalize ([.ref (G.2.2.2 + q0)] : List Value).toArray = args
  unfold f_X2_fits at h
  refine lv_iconst (v := (0 : Int32)) E.1 E.2.1 dX2_fits_0 (by decide) ?_
  refine lv_istore_n (lv' := [(1, .int (0 : Int32)), (0, .ref (G.2.2.2 + q0))]) E.1 E.2.1 dX2_fits_1 rfl hl (by decide) rfl (fun ls hl => ?_)
  refine L_X2_fits_2 E hr hlk ?_ _ _ _ _ _ _ _ h hW (lv_sub hl [1, 0] rfl)
  · intro q5 σ4 H locs ls h hW hl
    have h := jr2 rfl h
    refine lv_aload_n E.1 E.2.1 dX2_fits_42 rfl (lv_at hl 0 rfl) ?_
    obtain ⟨g10, h⟩ := gd_r h
    refine gf_X2_21 E hW g10 dX2_fits_43 ?_
    refine lv_ldc2 (v := (-100000000 : Int64)) E.1 E.2.1 E.2.2.2.1 (E.wd kw_530) dX2_fits_46 ?_
    refine r_lc_lt E dX2_fits_49 dX2_fits_50 (tgt := 90) (by decide) (fun g => ?_) (fun g => ?_)
    · have h := ifp h g
      refine lv_iconst (v := (0 : Int32)) E.1 E.2.1 dX2_fits_90 (by decide) ?_
      exact e_z E hW hr hlk (by decide) h dX2_fits_91
    · have h := ifn h g
      refine lv_aload_n E.1 E.2.1 dX2_fits_53 rfl (lv_at hl 0 rfl) ?_
      refine gf_X2_21 E hW g10 dX2_fits_54 ?_
      refine lv_ldc2 (v := (100000000 : Int64)) E.1 E.2.1 E.2.2.2.1 (E.wd kw_531) dX2_fits_57 ?_
      refine r_lc_gt E dX2_fits_60 dX2_fits_61 (tgt := 90) (by decide) (fun g => ?_) (fun g => ?_)
      · have h := ifp h g
        refine lv_iconst (v := (0 : Int32)) E.1 E.2.1 dX2_fits_90 (by decide) ?_
        exact e_z E hW hr hlk (by decide) h dX2_fits_91
      · have h := ifn h g
        refine lv_aload_n E.1 E.2.1 dX2_fits_64 rfl (lv_at hl 0 rfl) ?_
        refine gf_X2_25 E hW g10 dX2_fits_65 ?_
        refine lv_ldc2 (v := (-100000000 : Int64)) E.1 E.2.1 E.2.2.2.1 (E.wd kw_530) dX2_fits_68 ?_
        refine r_lc_lt E dX2_fits_71 dX2_fits_72 (tgt := 90) (by decide) (fun g => ?_) (fun g => ?_)
        · have h := ifp h g
          refine lv_iconst (v := (0 : Int32)) E.1 E.2.1 dX2_fits_90 (by decide) ?_
          exact e_z E hW hr hlk (by decide) h dX2_fits_91
        · have h := ifn h g
          refine lv_aload_n E.1 E.2.1 dX2_fits_75 rfl (lv_at hl 0 rfl) ?_
          refine gf_X2_25 E hW g10 dX2_fits_76 ?_
          refine lv_ldc2 (v := (100000000 : Int64)) E.1 E.2.1 E.2.2.2.1 (E.wd kw_531) dX2_fits_79 ?_
          refine r_lc_gt E dX2_fits_82 dX2_fits_83 (tgt := 90) (by decide) (fun g => ?_) (fun g => ?_)
          · have h := ifp h g
            refine lv_iconst (v := (0 : Int32)) E.1 E.2.1 dX2_fits_90 (by decide) ?_
            exact e_z E hW hr hlk (by decide) h dX2_fits_91
          · have h := ifn h g
            refine lv_iconst (v := (1 : Int32)) E.1 E.2.1 dX2_fits_86 (by decide) ?_
            refine lv_goto (tgt := 91) E.1 E.2.1 dX2_fits_87 (by decide) ?_
            exact e_z E hW hr hlk (by decide) h dX2_fits_91
set_option maxHeartbeats 4000000 in
set_option maxRecDepth 100000 in
theorem m_X6_lowestOf {l : Launch} {G : GP} {sz : Nat} {a0 : Int32} {a1 : Int32} {σ σ0 : St} {r0 : Int32} (h : f_X6_lowestOf a0 a1 σ = some (r0, σ0)) : Met l yX6_lowestOf [.code yX6_lowestOf cX6_lowestOf 2 (some .int)] ({ frames := 0, cells := 0, slots := 0, locals := 0 } : Room) (va_Pc [.int a0, .int a1] (PreC G skC sz σ)) (QO (PoC G skC σ0) (Aw G.2.2.2 skC.1 sz) (some (.int r0))) 0 0 (Aw G.2.2.2 skC.1 sz) := by
  refine mkMet (by decide +kernel) (Nat.le_of_ble_eq_true rfl) skC_ok ?_
  intro p e s m below meth c ls E hW hl hr hlk
  have hl : lv_has ls 2 [(0, .int a0), (1, .int a1)] := hl
  generalize Aw G.2.2.2 skC.1 s.heap.size = A0 at E hW ⊢
  generalize ([.int a0, .int a1] : List Value).toArray = args
  unfold f_X6_lowestOf at h
  refine lv_iload_n E.1 E.2.1 dX6_lowestOf_0 rfl (lv_at hl 0 rfl) ?_
  obtain ⟨J4, eJ4, h⟩ := bnd_x h
  have hJ4 : ∀ (x2 : Int32) (x3 : Int32) (σ1 : St) (H : Heap) (locs : List Loc) (ls : Array Slot), J4 x2 x3 σ1 = some (r0, σ0) → Wo G skC A0 s σ1 H locs → lv_has ls 2 [(0, .int x2), (1, .int x3)] → W p l e ({ frames := 0, cells := 0, slots := 0, locals := 0 } : Room) s m args below meth c H locs 0 0 (MQ below (QO (PoC G skC σ0) A0 (some (.int r0))) args s 0 0 A0) (F0 m 10 ls []) := by
    intro x2 x3 σ1 H locs ls h hW hl
    have h := jr3 eJ4 h
    refine lv_iload_n E.1 E.2.1 dX6_lowestOf_10 rfl (lv_at hl 0 rfl) ?_
    refine lv_iconst (v := (1 : Int32)) E.1 E.2.1 dX6_lowestOf_11 (by decide) ?_
    refine lv_iand E.1 E.2.1 dX6_lowestOf_12 ?_
    refine lv_if_ne (tgt := 26) E.1 E.2.1 dX6_lowestOf_13 (by decide) (fun g => ?_) (fun g => ?_)
    · have h := ifn h g
      refine lv_iconst (v := (-1 : Int32)) E.1 E.2.1 dX6_lowestOf_26 (by decide) ?_
      exact e_i E hW hr hlk h dX6_lowestOf_27
    · have h := ifp h g
      refine lv_iload_n E.1 E.2.1 dX6_lowestOf_16 rfl (lv_at hl 1 rfl) ?_
      refine lv_iconst (v := (1 : Int32)) E.1 E.2.1 dX6_lowestOf_17 (by decide) ?_
      refine lv_iand E.1 E.2.1 dX6_lowestOf_18 ?_
      refine lv_if_ne (tgt := 26) E.1 E.2.1 dX6_lowestOf_19 (by decide) (fun g => ?_) (fun g => ?_)
      · have h := ifn h g
        refine lv_iconst (v := (-1 : Int32)) E.1 E.2.1 dX6_lowestOf_26 (by decide) ?_
        exact e_i E hW hr hlk h dX6_lowestOf_27
      · have h := ifp h g
        refine lv_iconst (v := (0 : Int32)) E.1 E.2.1 dX6_lowestOf_22 (by decide) ?_
        refine lv_goto (tgt := 27) E.1 E.2.1 dX6_lowestOf_23 (by decide) ?_
        exact e_i E hW hr hlk h dX6_lowestOf_27
  refine lv_if_ne (tgt := 10) E.1 E.2.1 dX6_lowestOf_1 (by decide) (fun g => ?_) (fun g => ?_)
  · have h := ifn h g
    exact hJ4 _ _ _ _ _ _ h hW (lv_sub hl [0, 1] rfl)
  · have h := ifp h g
    refine lv_iload_n E.1 E.2.1 dX6_lowestOf_4 rfl (lv_at hl 1 rfl) ?_
    refine lv_if_ne (tgt := 10) E.1 E.2.1 dX6_lowestOf_5 (by decide) (fun g => ?_) (fun g => ?_)
    · have h := ifn h g
      exact hJ4 _ _ _ _ _ _ h hW (lv_sub hl [0, 1] rfl)
    · have h := ifp h g
      refine lv_iconst (v := (1 : Int32)) E.1 E.2.1 dX6_lowestOf_8 (by decide) ?_
      exact e_i E hW hr hlk h dX6_lowestOf_9
set_option maxHeartbeats 4000000 in
set_option maxRecDepth 100000 in
theorem m_X6_rangeLow {l : Launch} {G : GP} {sz : Nat} {a0 : Int64} {a2 : Int32} {σ σ0 : St} {r0 : Int64} (h : f_X6_rangeLow a0 a2 σ = some (r0, σ0)) : Met l yX6_rangeLow [.code yX6_rangeLow cX6_rangeLow 3 (some .long)] ({ frames := 1, cells := 0, slots := 0, locals := 24 } : Room) (va_Pc [.long a0, .int a2] (PreC G skC sz σ)) (QO (PoC G skC σ0) (Aw G.2.2.2 skC.1 sz) (some (.long r0))) 0 0 (Aw G.2.2.2 skC.1 sz) := by
  refine mkMet (by decide +kernel) (Nat.le_of_ble_eq_true rfl) skC_ok ?_
  intro p e s m below meth c ls E hW hl hr hlk
  have hl : lv_has ls 3 [(0, .long a0), (2, .int a2)] := hl
  generalize Aw G.2.2.2 skC.1 s.heap.size = A0 at E hW ⊢
  generalize ([.long a0, .int a2] : List Value).toArray = args
  unfold f_X6_rangeLow at h
  refine lv_lload_n E.1 E.2.1 dX6_rangeLow_0 rfl (lv_at hl 0 rfl) ?_
  refine lv_iload_n E.1 E.2.1 dX6_rangeLow_1 rfl (lv_at hl 1 rfl) ?_
  refine lv_i2l E.1 E.2.1 dX6_rangeLow_2 rfl ?_
  refine lv_lmul E.1 E.2.1 dX6_rangeLow_3 ?_
  refine lv_lload_n E.1 E.2.1 dX6_rangeLow_4 rfl (lv_at hl 0 rfl) ?_
  refine r_minJ E (lv_size hl) ⟨kw_517, kw_518, kw_19, kw_519⟩ ⟨(Nat.le_of_ble_eq_true rfl), (Nat.le_of_ble_eq_true rfl)⟩ ⟨(Nat.le_of_ble_eq_true rfl), (Nat.le_of_ble_eq_true rfl)⟩ dX6_rangeLow_5 ?_
  exact e_j E hW hr hlk h dX6_rangeLow_8
set_option maxHeartbeats 4000000 in
set_option maxRecDepth 100000 in
theorem L_X2_spreadLow_4 {p : Program} {l : Launch} {e : Env} {s : State} {m : MethodId} {args : Array Value} {below : List Frame} {meth : Method} {c : Code} {G : GP} {A0 : Nat → Prop} {σ0 : St} {r0 : Int64} (E : En p m c s cX2_spreadLow 4 yX2_spreadLow.cls G A0) (hr : meth.sig.returnType = (some .long)) (hlk : meth.locks = false) : ∀ (n5 : Nat) (q2 : Nat) (x3 : Int64) (x4 : Int32) (σ1 : St) (H : Heap) (locs : List Loc) (ls : Array Slot), f_X2_spreadLow_L4 n5 q2 x3 x4 σ1 = some (r0, σ0) → Wo G skC A0 s σ1 H locs → lv_has ls 4 [(0, .ref (G.2.2.2 + q2)), (1, .long x3), (3, .int x4)] → W p l e ({ frames := 1, cells := 0, slots := 0, locals := 24 } : Room) s m args below meth c H locs 0 0 (MQ below (QO (PoC G skC σ0) A0 (some (.long r0))) args s 0 0 A0) (F0 m 4 ls []) := by
  intro n5
  induction n5 with
  | zero =>
    intro q2 x3 x4 σ1 H locs ls h hW hl
    rw [f_X2_spreadLow_L4] at h
    cases h
  | succ n5 ih =>
    intro q2 x3 x4 σ1 H locs ls h hW hl
    rw [f_X2_spreadLow_L4] at h
    refine lv_iload_n E.1 E.2.1 dX2_spreadLow_4 rfl (lv_at hl 2 rfl) ?_
    refine lv_bipush (v := (10 : Int32)) E.1 E.2.1 dX2_spreadLow_5 (by decide) ?_
    refine lv_icmp_ge (tgt := 41) E.1 E.2.1 dX2_spreadLow_7 (by decide) (fun g => ?_) (fun g => ?_)
    · have h := ifp h g
      refine lv_lload_n E.1 E.2.1 dX2_spreadLow_41 rfl (lv_at hl 1 rfl) ?_
      exact e_j E hW hr hlk h dX2_spreadLow_42
    · have h := ifn h g
      refine lv_lload_n E.1 E.2.1 dX2_spreadLow_10 rfl (lv_at hl 1 rfl) ?_
      refine lv_aload_n E.1 E.2.1 dX2_spreadLow_11 rfl (lv_at hl 0 rfl) ?_
      obtain ⟨g6, h⟩ := gd_r h
      refine gf_X2_9 E hW g6 dX2_spreadLow_12 ?_
      refine lv_iload_n E.1 E.2.1 dX2_spreadLow_15 rfl (lv_at hl 2 rfl) ?_
      obtain ⟨g7, h⟩ := gd_r h
      refine r_lald E hW (pr_eq g7.1) g7.2 dX2_spreadLow_16 ?_
      refine r_getsN E hW 3 (by decide) rfl kw_506 dX2_spreadLow_17 (fun t8 Tt8 => ?_)
      refine lv_iload_n E.1 E.2.1 dX2_spreadLow_20 rfl (lv_at hl 2 rfl) ?_
      obtain ⟨g9, h⟩ := gd_r h
      refine r_tald E hW 3 Tt8 g9 dX2_spreadLow_21 ?_
      refine lv_i2l E.1 E.2.1 dX2_spreadLow_22 rfl ?_
      refine lv_lmul E.1 E.2.1 dX2_spreadLow_23 ?_
      refine lv_aload_n E.1 E.2.1 dX2_spreadLow_24 rfl (lv_at hl 0 rfl) ?_
      refine gf_X2_9 E hW g6 dX2_spreadLow_25 ?_
      refine lv_iload_n E.1 E.2.1 dX2_spreadLow_28 rfl (lv_at hl 2 rfl) ?_
      refine r_lald E hW (pr_eq g7.1) g7.2 dX2_spreadLow_29 ?_
      refine r_minJ E (lv_size hl) ⟨kw_569, kw_518, kw_19, kw_519⟩ ⟨(Nat.le_of_ble_eq_true rfl), (Nat.le_of_ble_eq_true rfl)⟩ ⟨(Nat.le_of_ble_eq_true rfl), (Nat.le_of_ble_eq_true rfl)⟩ dX2_spreadLow_30 ?_
      refine lv_ladd E.1 E.2.1 dX2_spreadLow_33 ?_
      refine lv_topl (fun x10 ex10 => ?_)
      have h := bnd_r ex10 h
      refine lv_lstore_n (lv' := [(1, .long x10), (0, .ref (G.2.2.2 + q2)), (3, .int x4)]) E.1 E.2.1 dX2_spreadLow_34 rfl hl (by decide) rfl (fun ls hl => ?_)
      obtain ⟨x11, ex11⟩ : ∃ y : Int32, y = x4 + (1 : Int32) := ⟨_, rfl⟩
      have h := bnd_r ex11 h
      refine lv_iinc (v := x11) (lv' := [(3, .int x11), (1, .long x10), (0, .ref (G.2.2.2 + q2))]) E.1 E.2.1 dX2_spreadLow_35 hl (k := 2) rfl (by rw [ex11]; rfl) (by decide) rfl (fun ls hl => ?_)
      refine lv_goto (tgt := 4) E.1 E.2.1 dX2_spreadLow_38 (by decide) ?_
      exact ih _ _ _ _ _ _ _ h hW (lv_sub hl [2, 1, 0] rfl)
set_option maxHeartbeats 4000000 in
set_option maxRecDepth 100000 in
theorem m_X2_spreadLow {l : Launch} {G : GP} {sz : Nat} {q0 : Nat} {σ σ0 : St} {r0 : Int64} (h : f_X2_spreadLow q0 σ = some (r0, σ0)) : Met l yX2_spreadLow [.code yX2_spreadLow cX2_spreadLow 4 (some .long)] ({ frames := 1, cells := 0, slots := 0, locals := 24 } : Room) (va_Pc [.ref (G.2.2.2 + q0)] (PreC G skC sz σ)) (QO (PoC G skC σ0) (Aw G.2.2.2 skC.1 sz) (some (.long r0))) 0 0 (Aw G.2.2.2 skC.1 sz) := by
  refine mkMet (by decide +kernel) (Nat.le_of_ble_eq_true rfl) skC_ok ?_
  intro p e s m below meth c ls E hW hl hr hlk
  have hl : lv_has ls 4 [(0, .ref (G.2.2.2 + q0))] := hl
  generalize Aw G.2.2.2 skC.1 s.heap.size = A0 at E hW ⊢
  generalize ([.ref (G.2.2.2 + q0)] : List Value).toArray = args
  unfold f_X2_spreadLow at h
  refine lv_lconst (v := (0 : Int64)) E.1 E.2.1 dX2_spreadLow_0 (by decide) ?_
  refine lv_lstore_n (lv' := [(1, .long (0 : Int64)), (0, .ref (G.2.2.2 + q0))]) E.1 E.2.1 dX2_spreadLow_1 rfl hl (by decide) rfl (fun ls hl => ?_)
  refine lv_iconst (v := (0 : Int32)) E.1 E.2.1 dX2_spreadLow_2 (by decide) ?_
  refine lv_istore_n (lv' := [(3, .int (0 : Int32)), (1, .long (0 : Int64)), (0, .ref (G.2.2.2 + q0))]) E.1 E.2.1 dX2_spreadLow_3 rfl hl (by decide) rfl (fun ls hl => ?_)
  refine L_X2_spreadLow_4 E hr hlk _ _ _ _ _ _ _ _ h hW (lv_sub hl [2, 1, 0] rfl)
