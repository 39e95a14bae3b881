def f_L_load (a1 : Int32) (σ ρ : St) : Option (Int32 × St × St) := wrp [3] Int32.toInt64 (f_X6_load 0 a1 σ) ρ
set_option maxRecDepth 100000 in
theorem m_L_load {l : Launch} {G : GP} {sz : Nat} {a1 : Int32} {σ τ ρ σ1 ρ1 : St} {r0 : Int32} (hl9 : l.stackTraces = false) (h : f_L_load a1 σ ρ = some (r0, σ1, ρ1)) : Met l yL_load [.codeWith yL_load cL_load 4 (some .int) [(0, 9, 12, 13)]] ({ frames := 75, cells := 1, slots := 6, locals := 2214 } : Room) (va_Pc [.ref (G.2.2.2 + 0), .int a1, .ref (G.2.2.2 + 311)] (PreL G sz (jn σ τ ρ))) (QO (PoC G skA (jn σ1 τ ρ1)) (Aw G.2.2.2 skA.1 sz) (some (.int r0))) 1 6 (Aw G.2.2.2 skA.1 sz) := by
  obtain ⟨r, σ2, hf⟩ : ∃ r σ2, f_X6_load 0 a1 σ = some (r, σ2) := by
    exact wrp_some h
  unfold f_L_load at h; rw [hf] at h
  refine mkMetW (by decide +kernel) (Nat.le_of_ble_eq_true rfl) ?_
  intro p e s m below meth c ls E hW hl hr hlk hT hN
  have hl : lv_has ls 4 [(0, .ref (G.2.2.2 + 0)), (1, .int a1), (2, .ref (G.2.2.2 + 311))] := hl
  generalize Aw G.2.2.2 skA.1 s.heap.size = A0 at E hW ⊢
  generalize ([.ref (G.2.2.2 + 0), .int a1, .ref (G.2.2.2 + 311)] : List Value).toArray = args
  refine lv_aload_n E.1 E.2.1 dL_load_0 rfl (lv_at hl 2 rfl) ?_
  refine lv_iconst (v := (0 : Int32)) E.1 E.2.1 dL_load_1 (by decide) ?_
  refine lv_aload_n E.1 E.2.1 dL_load_2 rfl (lv_at hl 0 rfl) ?_
  refine lv_iload_n E.1 E.2.1 dL_load_3 rfl (lv_at hl 1 rfl) ?_
  refine l_CX (As := [.int a1]) (rest := [.int 0, .ref (G.2.2.2 + 311)]) E hW (m_X6_load hl9 hf) rfl kw_276 (⟨kw_277, kw_278, kw_1, kw_279⟩ : wV yX6_load cX6_load 3 (some .int)) (⟨⟨by decide +kernel, by decide +kernel⟩, by decide +kernel⟩ : yOK yX6_load 1) ⟨rfl, rfl⟩ ⟨(Nat.le_of_ble_eq_true rfl), (Nat.le_of_ble_eq_true rfl)⟩ (lv_size hl) (Nat.le_of_ble_eq_true rfl) ⟨(Nat.le_of_ble_eq_true rfl), (Nat.le_of_ble_eq_true rfl)⟩ rfl dL_load_4 (fun ex ce q9 H locs hrv hW h1 h2 h3 => ?_) (fun v H locs hrv hW => ?_)
  · rcases r with ex9 | v9
    · cases hrv
      by_cases hx0 : ex = 3
      · subst hx0
        obtain ⟨rfl, rfl, rfl⟩ : (1 : Int32) = r0 ∧ σ2 = σ1 ∧ ρ = ρ1 := by simpa [wrp] using h
        refine w_catch E hN [] [] (0, 9, 12, 13) hT (ex := 3) (by decide) (fun y hy => by cases hy) (by decide) (by decide) kw_275 cst_3 h1 h2 h3 ?_
        refine lv_astore_n (lv' := [(3, .ref q9), (0, .ref (G.2.2.2 + 0)), (1, .int a1), (2, .ref (G.2.2.2 + 311))]) E.1 E.2.1 dL_load_12 rfl hl (by decide) rfl (fun ls hl => ?_)
        refine lv_iconst (v := (1 : Int32)) E.1 E.2.1 dL_load_13 (by decide) ?_
        exact e_iW E hW hr hlk rfl rfl (by decide) (by decide) dL_load_14
      · skip
        simp [wrp, hx0] at h
    · cases hrv
  · rcases r with ex9 | v9
    · cases hrv
    · cases hrv
      refine W.eq (g2 := F0 m 7 ls [.int v9, .int 0, .ref (G.2.2.2 + 311)]) rfl ?_
      obtain ⟨rfl, rfl, rfl⟩ : (0 : Int32) = r0 ∧ σ2 = σ1 ∧ sJ ρ 0 0 (Int32.toInt64 v9) = ρ1 := by simpa [wrp] using h
      refine lv_i2l E.1 E.2.1 dL_load_7 rfl ?_
      refine r_last E hW (q := 311) (n := 1) rfl vin01 dL_load_8 (fun σ9 H locs eσ9 hW => ?_)
      have eσ9 : σ9 = sJ (jn σ2 τ ρ) 311 0 (Int32.toInt64 v9) := eσ9
      rw [jn_out] at eσ9; subst eσ9
      refine lv_goto (tgt := 15) E.1 E.2.1 dL_load_9 (by decide) ?_
      refine lv_iconst (v := (0 : Int32)) E.1 E.2.1 dL_load_15 (by decide) ?_
      exact e_iW E hW hr hlk rfl rfl (by decide) (by decide) dL_load_16
def f_L_coefficient (a1 : Int32) (a2 : Int32) (a3 : Int32) (σ ρ : St) : Option (Int32 × St × St) := wrp [1, 2, 3] Int32.toInt64 (f_X6_coefficient 0 a1 a2 a3 σ) ρ
set_option maxRecDepth 100000 in
theorem m_L_coefficient {l : Launch} {G : GP} {sz : Nat} {a1 : Int32} {a2 : Int32} {a3 : Int32} {σ τ ρ σ1 ρ1 : St} {r0 : Int32} (hl9 : l.stackTraces = false) (h : f_L_coefficient a1 a2 a3 σ ρ = some (r0, σ1, ρ1)) : Met l yL_coefficient [.codeWith yL_coefficient cL_coefficient 6 (some .int) [(0, 12, 15, 19), (0, 12, 19, 21), (0, 12, 23, 13)]] ({ frames := 8, cells := 3, slots := 18, locals := 146 } : Room) (va_Pc [.ref (G.2.2.2 + 0), .int a1, .int a2, .int a3, .ref (G.2.2.2 + 311)] (PreL G sz (jn σ τ ρ))) (QO (PoC G skA (jn σ1 τ ρ1)) (Aw G.2.2.2 skA.1 sz) (some (.int r0))) 3 18 (Aw G.2.2.2 skA.1 sz) := by
  obtain ⟨r, σ2, hf⟩ : ∃ r σ2, f_X6_coefficient 0 a1 a2 a3 σ = some (r, σ2) := by
    exact wrp_some h
  unfold f_L_coefficient at h; rw [hf] at h
  refine mkMetW (by decide +kernel) (Nat.le_of_ble_eq_true rfl) ?_
  intro p e s m below meth c ls E hW hl hr hlk hT hN
  have hl : lv_has ls 6 [(0, .ref (G.2.2.2 + 0)), (1, .int a1), (2, .int a2), (3, .int a3), (4, .ref (G.2.2.2 + 311))] := hl
  generalize Aw G.2.2.2 skA.1 s.heap.size = A0 at E hW ⊢
  generalize ([.ref (G.2.2.2 + 0), .int a1, .int a2, .int a3, .ref (G.2.2.2 + 311)] : List Value).toArray = args
  refine lv_aload E.1 E.2.1 dL_coefficient_0 (lv_at hl 4 rfl) ?_
  refine lv_iconst (v := (0 : Int32)) E.1 E.2.1 dL_coefficient_2 (by decide) ?_
  refine lv_aload_n E.1 E.2.1 dL_coefficient_3 rfl (lv_at hl 0 rfl) ?_
  refine lv_iload_n E.1 E.2.1 dL_coefficient_4 rfl (lv_at hl 1 rfl) ?_
  refine lv_iload_n E.1 E.2.1 dL_coefficient_5 rfl (lv_at hl 2 rfl) ?_
  refine lv_iload_n E.1 E.2.1 dL_coefficient_6 rfl (lv_at hl 3 rfl) ?_
  refine l_CX (As := [.int a1, .int a2, .int a3]) (rest := [.int 0, .ref (G.2.2.2 + 311)]) E hW (m_X6_coefficient hl9 hf) rfl kw_637 (⟨kw_638, kw_639, kw_1, kw_640⟩ : wV yX6_coefficient cX6_coefficient 5 (some .int)) (⟨⟨by decide +kernel, by decide +kernel⟩, by decide +kernel⟩ : yOK yX6_coefficient 3) ⟨rfl, rfl⟩ ⟨(Nat.le_of_ble_eq_true rfl), (Nat.le_of_ble_eq_true rfl)⟩ (lv_size hl) (Nat.le_of_ble_eq_true rfl) ⟨(Nat.le_of_ble_eq_true rfl), (Nat.le_of_ble_eq_true rfl)⟩ rfl dL_coefficient_7 (fun ex ce q9 H locs hrv hW h1 h2 h3 => ?_) (fun v H locs hrv hW => ?_)
  · rcases r with ex9 | v9
    · cases hrv
      by_cases hx0 : ex = 1
      · subst hx0
        obtain ⟨rfl, rfl, rfl⟩ : (1 : Int32) = r0 ∧ σ2 = σ1 ∧ ρ = ρ1 := by simpa [wrp] using h
        refine w_catch E hN [] [(0, 12, 19, 21), (0, 12, 23, 13)] (0, 12, 15, 19) hT (ex := 1) (by decide) (fun y hy => by cases hy) (by decide) (by decide) kw_635 cst_1 h1 h2 h3 ?_
        refine lv_astore (lv' := [(5, .ref q9), (0, .ref (G.2.2.2 + 0)), (1, .int a1), (2, .int a2), (3, .int a3), (4, .ref (G.2.2.2 + 311))]) E.1 E.2.1 dL_coefficient_15 hl (by decide) rfl (fun ls hl => ?_)
        refine lv_iconst (v := (1 : Int32)) E.1 E.2.1 dL_coefficient_17 (by decide) ?_
        exact e_iW E hW hr hlk rfl rfl (by decide) (by decide) dL_coefficient_18
      · skip
        by_cases hx1 : ex = 2
        · subst hx1
          obtain ⟨rfl, rfl, rfl⟩ : (2 : Int32) = r0 ∧ σ2 = σ1 ∧ ρ = ρ1 := by simpa [wrp] using h
          refine w_catch E hN [(0, 12, 15, 19)] [(0, 12, 23, 13)] (0, 12, 19, 21) hT (ex := 2) (by decide) (fun y hy => by
            simp only [List.mem_cons, List.not_mem_nil, or_false] at hy
            rcases hy with rfl
            · exact ⟨by decide, 1, by decide, by decide, by decide, kw_635⟩) (by decide) (by decide) kw_636 cst_2 h1 h2 h3 ?_
          refine lv_astore (lv' := [(5, .ref q9), (0, .ref (G.2.2.2 + 0)), (1, .int a1), (2, .int a2), (3, .int a3), (4, .ref (G.2.2.2 + 311))]) E.1 E.2.1 dL_coefficient_19 hl (by decide) rfl (fun ls hl => ?_)
          refine lv_iconst (v := (2 : Int32)) E.1 E.2.1 dL_coefficient_21 (by decide) ?_
          exact e_iW E hW hr hlk rfl rfl (by decide) (by decide) dL_coefficient_22
        · skip
          by_cases hx2 : ex = 3
          · subst hx2
            obtain ⟨rfl, rfl, rfl⟩ : (3 : Int32) = r0 ∧ σ2 = σ1 ∧ ρ = ρ1 := by simpa [wrp] using h
            refine w_catch E hN [(0, 12, 15, 19), (0, 12, 19, 21)] [] (0, 12, 23, 13) hT (ex := 3) (by decide) (fun y hy => by
              simp only [List.mem_cons, List.not_mem_nil, or_false] at hy
              rcases hy with rfl | rfl
              · exact ⟨by decide, 1, by decide, by decide, by decide, kw_635⟩
              · exact ⟨by decide, 2, by decide, by decide, by decide, kw_636⟩) (by decide) (by decide) kw_275 cst_3 h1 h2 h3 ?_
            refine lv_astore (lv' := [(5, .ref q9), (0, .ref (G.2.2.2 + 0)), (1, .int a1), (2, .int a2), (3, .int a3), (4, .ref (G.2.2.2 + 311))]) E.1 E.2.1 dL_coefficient_23 hl (by decide) rfl (fun ls hl => ?_)
            refine lv_iconst (v := (3 : Int32)) E.1 E.2.1 dL_coefficient_25 (by decide) ?_
            exact e_iW E hW hr hlk rfl rfl (by decide) (by decide) dL_coefficient_26
          · skip
            simp [wrp, hx0, hx1, hx2] at h
    · cases hrv
  · rcases r with ex9 | v9
    · cases hrv
    · cases hrv
      refine W.eq (g2 := F0 m 10 ls [.int v9, .int 0, .ref (G.2.2.2 + 311)]) rfl ?_
      obtain ⟨rfl, rfl, rfl⟩ : (0 : Int32) = r0 ∧ σ2 = σ1 ∧ sJ ρ 0 0 (Int32.toInt64 v9) = ρ1 := by simpa [wrp] using h
      refine lv_i2l E.1 E.2.1 dL_coefficient_10 rfl ?_
      refine r_last E hW (q := 311) (n := 1) rfl vin01 dL_coefficient_11 (fun σ9 H locs eσ9 hW => ?_)
      have eσ9 : σ9 = sJ (jn σ2 τ ρ) 311 0 (Int32.toInt64 v9) := eσ9
      rw [jn_out] at eσ9; subst eσ9
      refine lv_goto (tgt := 27) E.1 E.2.1 dL_coefficient_12 (by decide) ?_
      refine lv_iconst (v := (0 : Int32)) E.1 E.2.1 dL_coefficient_27 (by decide) ?_
      exact e_iW E hW hr hlk rfl rfl (by decide) (by decide) dL_coefficient_28
def f_L_remainder (a1 : Int32) (a2 : Int32) (σ ρ : St) : Option (Int32 × St × St) := wrp [1, 2, 3] Int32.toInt64 (f_X6_remainder 0 a1 a2 σ) ρ
set_option maxRecDepth 100000 in
theorem m_L_remainder {l : Launch} {G : GP} {sz : Nat} {a1 : Int32} {a2 : Int32} {σ τ ρ σ1 ρ1 : St} {r0 : Int32} (hl9 : l.stackTraces = false) (h : f_L_remainder a1 a2 σ ρ = some (r0, σ1, ρ1)) : Met l yL_remainder [.codeWith yL_remainder cL_remainder 5 (some .int) [(0, 10, 13, 19), (0, 10, 17, 21), (0, 10, 21, 13)]] ({ frames := 8, cells := 3, slots := 18, locals := 144 } : Room) (va_Pc [.ref (G.2.2.2 + 0), .int a1, .int a2, .ref (G.2.2.2 + 311)] (PreL G sz (jn σ τ ρ))) (QO (PoC G skA (jn σ1 τ ρ1)) (Aw G.2.2.2 skA.1 sz) (some (.int r0))) 3 18 (Aw G.2.2.2 skA.1 sz) := by
  obtain ⟨r, σ2, hf⟩ : ∃ r σ2, f_X6_remainder 0 a1 a2 σ = some (r, σ2) := by
    exact wrp_some h
  unfold f_L_remainder at h; rw [hf] at h
  refine mkMetW (by decide +kernel) (Nat.le_of_ble_eq_true rfl) ?_
  intro p e s m below meth c ls E hW hl hr hlk hT hN
  have hl : lv_has ls 5 [(0, .ref (G.2.2.2 + 0)), (1, .int a1), (2, .int a2), (3, .ref (G.2.2.2 + 311))] := hl
  generalize Aw G.2.2.2 skA.1 s.heap.size = A0 at E hW ⊢
  generalize ([.ref (G.2.2.2 + 0), .int a1, .int a2, .ref (G.2.2.2 + 311)] : List Value).toArray = args
  refine lv_aload_n E.1 E.2.1 dL_remainder_0 rfl (lv_at hl 3 rfl) ?_
  refine lv_iconst (v := (0 : Int32)) E.1 E.2.1 dL_remainder_1 (by decide) ?_
  refine lv_aload_n E.1 E.2.1 dL_remainder_2 rfl (lv_at hl 0 rfl) ?_
  refine lv_iload_n E.1 E.2.1 dL_remainder_3 rfl (lv_at hl 1 rfl) ?_
  refine lv_iload_n E.1 E.2.1 dL_remainder_4 rfl (lv_at hl 2 rfl) ?_
  refine l_CX (As := [.int a1, .int a2]) (rest := [.int 0, .ref (G.2.2.2 + 311)]) E hW (m_X6_remainder hl9 hf) rfl kw_692 (⟨kw_693, kw_694, kw_1, kw_695⟩ : wV yX6_remainder cX6_remainder 4 (some .int)) (⟨⟨by decide +kernel, by decide +kernel⟩, by decide +kernel⟩ : yOK yX6_remainder 2) ⟨rfl, rfl⟩ ⟨(Nat.le_of_ble_eq_true rfl), (Nat.le_of_ble_eq_true rfl)⟩ (lv_size hl) (Nat.le_of_ble_eq_true rfl) ⟨(Nat.le_of_ble_eq_true rfl), (Nat.le_of_ble_eq_true rfl)⟩ rfl dL_remainder_5 (fun ex ce q9 H locs hrv hW h1 h2 h3 => ?_) (fun v H locs hrv hW => ?_)
  · rcases r with ex9 | v9
    · cases hrv
      by_cases hx0 : ex = 1
      · subst hx0
        obtain ⟨rfl, rfl, rfl⟩ : (1 : Int32) = r0 ∧ σ2 = σ1 ∧ ρ = ρ1 := by simpa [wrp] using h
        refine w_catch E hN [] [(0, 10, 17, 21), (0, 10, 21, 13)] (0, 10, 13, 19) hT (ex := 1) (by decide) (fun y hy => by cases hy) (by decide) (by decide) kw_635 cst_1 h1 h2 h3 ?_
        refine lv_astore (lv' := [(4, .ref q9), (0, .ref (G.2.2.2 + 0)), (1, .int a1), (2, .int a2), (3, .ref (G.2.2.2 + 311))]) E.1 E.2.1 dL_remainder_13 hl (by decide) rfl (fun ls hl => ?_)
        refine lv_iconst (v := (1 : Int32)) E.1 E.2.1 dL_remainder_15 (by decide) ?_
        exact e_iW E hW hr hlk rfl rfl (by decide) (by decide) dL_remainder_16
      · skip
        by_cases hx1 : ex = 2
        · subst hx1
          obtain ⟨rfl, rfl, rfl⟩ : (2 : Int32) = r0 ∧ σ2 = σ1 ∧ ρ = ρ1 := by simpa [wrp] using h
          refine w_catch E hN [(0, 10, 13, 19)] [(0, 10, 21, 13)] (0, 10, 17, 21) hT (ex := 2) (by decide) (fun y hy => by
            simp only [List.mem_cons, List.not_mem_nil, or_false] at hy
            rcases hy with rfl
            · exact ⟨by decide, 1, by decide, by decide, by decide, kw_635⟩) (by decide) (by decide) kw_636 cst_2 h1 h2 h3 ?_
          refine lv_astore (lv' := [(4, .ref q9), (0, .ref (G.2.2.2 + 0)), (1, .int a1), (2, .int a2), (3, .ref (G.2.2.2 + 311))]) E.1 E.2.1 dL_remainder_17 hl (by decide) rfl (fun ls hl => ?_)
          refine lv_iconst (v := (2 : Int32)) E.1 E.2.1 dL_remainder_19 (by decide) ?_
          exact e_iW E hW hr hlk rfl rfl (by decide) (by decide) dL_remainder_20
        · skip
          by_cases hx2 : ex = 3
          · subst hx2
            obtain ⟨rfl, rfl, rfl⟩ : (3 : Int32) = r0 ∧ σ2 = σ1 ∧ ρ = ρ1 := by simpa [wrp] using h
            refine w_catch E hN [(0, 10, 13, 19), (0, 10, 17, 21)] [] (0, 10, 21, 13) hT (ex := 3) (by decide) (fun y hy => by
              simp only [List.mem_cons, List.not_mem_nil, or_false] at hy
              rcases hy with rfl | rfl
              · exact ⟨by decide, 1, by decide, by decide, by decide, kw_635⟩
              · exact ⟨by decide, 2, by decide, by decide, by decide, kw_636⟩) (by decide) (by decide) kw_275 cst_3 h1 h2 h3 ?_
            refine lv_astore (lv' := [(4, .ref q9), (0, .ref (G.2.2.2 + 0)), (1, .int a1), (2, .int a2), (3, .ref (G.2.2.2 + 311))]) E.1 E.2.1 dL_remainder_21 hl (by decide) rfl (fun ls hl => ?_)
            refine lv_iconst (v := (3 : Int32)) E.1 E.2.1 dL_remainder_23 (by decide) ?_
            exact e_iW E hW hr hlk rfl rfl (by decide) (by decide) dL_remainder_24
          · skip
            simp [wrp, hx0, hx1, hx2] at h
    · cases hrv
  · rcases r with ex9 | v9
    · cases hrv
    · cases hrv
      refine W.eq (g2 := F0 m 8 ls [.int v9, .int 0, .ref (G.2.2.2 + 311)]) rfl ?_
      obtain ⟨rfl, rfl, rfl⟩ : (0 : Int32) = r0 ∧ σ2 = σ1 ∧ sJ ρ 0 0 (Int32.toInt64 v9) = ρ1 := by simpa [wrp] using h
      refine lv_i2l E.1 E.2.1 dL_remainder_8 rfl ?_
      refine r_last E hW (q := 311) (n := 1) rfl vin01 dL_remainder_9 (fun σ9 H locs eσ9 hW => ?_)
      have eσ9 : σ9 = sJ (jn σ2 τ ρ) 311 0 (Int32.toInt64 v9) := eσ9
      rw [jn_out] at eσ9; subst eσ9
      refine lv_goto (tgt := 25) E.1 E.2.1 dL_remainder_10 (by decide) ?_
      refine lv_iconst (v := (0 : Int32)) E.1 E.2.1 dL_remainder_25 (by decide) ?_
      exact e_iW E hW hr hlk rfl rfl (by decide) (by decide) dL_remainder_26
def f_L_bound (a1 : Int32) (a2 : Int32) (σ ρ : St) : Option (Int32 × St × St) := wrp [1, 2, 3] Int32.toInt64 (f_X6_bound 0 a1 a2 σ) ρ
set_option maxRecDepth 100000 in
theorem m_L_bound {l : Launch} {G : GP} {sz : Nat} {a1 : Int32} {a2 : Int32} {σ τ ρ σ1 ρ1 : St} {r0 : Int32} (hl9 : l.stackTraces = false) (h : f_L_bound a1 a2 σ ρ = some (r0, σ1, ρ1)) : Met l yL_bound [.codeWith yL_bound cL_bound 5 (some .int) [(0, 10, 13, 19), (0, 10, 17, 21), (0, 10, 21, 13)]] ({ frames := 8, cells := 3, slots := 18, locals := 144 } : Room) (va_Pc [.ref (G.2.2.2 + 0), .int a1, .int a2, .ref (G.2.2.2 + 311)] (PreL G sz (jn σ τ ρ))) (QO (PoC G skA (jn σ1 τ ρ1)) (Aw G.2.2.2 skA.1 sz) (some (.int r0))) 3 18 (Aw G.2.2.2 skA.1 sz) := by
  obtain ⟨r, σ2, hf⟩ : ∃ r σ2, f_X6_bound 0 a1 a2 σ = some (r, σ2) := by
    exact wrp_some h
  unfold f_L_bound at h; rw [hf] at h
  refine mkMetW (by decide +kernel) (Nat.le_of_ble_eq_true rfl) ?_
  intro p e s m below meth c ls E hW hl hr hlk hT hN
  have hl : lv_has ls 5 [(0, .ref (G.2.2.2 + 0)), (1, .int a1), (2, .int a2), (3, .ref (G.2.2.2 + 311))] := hl
  generalize Aw G.2.2.2 skA.1 s.heap.size = A0 at E hW ⊢
  generalize ([.ref (G.2.2.2 + 0), .int a1, .int a2, .ref (G.2.2.2 + 311)] : List Value).toArray = args
  refine lv_aload_n E.1 E.2.1 dL_bound_0 rfl (lv_at hl 3 rfl) ?_
  refine lv_iconst (v := (0 : Int32)) E.1 E.2.1 dL_bound_1 (by decide) ?_
  refine lv_aload_n E.1 E.2.1 dL_bound_2 rfl (lv_at hl 0 rfl) ?_
  refine lv_iload_n E.1 E.2.1 dL_bound_3 rfl (lv_at hl 1 rfl) ?_
  refine lv_iload_n E.1 E.2.1 dL_bound_4 rfl (lv_at hl 2 rfl) ?_
  refine l_CX (As := [.int a1, .int a2]) (rest := [.int 0, .ref (G.2.2.2 + 311)]) E hW (m_X6_bound hl9 hf) rfl kw_703 (⟨kw_704, kw_705, kw_1, kw_706⟩ : wV yX6_bound cX6_bound 4 (some .int)) (⟨⟨by decide +kernel, by decide +kernel⟩, by decide +kernel⟩ : yOK yX6_bound 2) ⟨rfl, rfl⟩ ⟨(Nat.le_of_ble_eq_true rfl), (Nat.le_of_ble_eq_true rfl)⟩ (lv_size hl) (Nat.le_of_ble_eq_true rfl) ⟨(Nat.le_of_ble_eq_true rfl), (Nat.le_of_ble_eq_true rfl)⟩ rfl dL_bound_5 (fun ex ce q9 H locs hrv hW h1 h2 h3 => ?_) (fun v H locs hrv hW => ?_)
  · rcases r with ex9 | v9
    · cases hrv
      by_cases hx0 : ex = 1
      · subst hx0
        obtain ⟨rfl, rfl, rfl⟩ : (1 : Int32) = r0 ∧ σ2 = σ1 ∧ ρ = ρ1 := by simpa [wrp] using h
        refine w_catch E hN [] [(0, 10, 17, 21), (0, 10, 21, 13)] (0, 10, 13, 19) hT (ex := 1) (by decide) (fun y hy => by cases hy) (by decide) (by decide) kw_635 cst_1 h1 h2 h3 ?_
        refine lv_astore (lv' := [(4, .ref q9), (0, .ref (G.2.2.2 + 0)), (1, .int a1), (2, .int a2), (3, .ref (G.2.2.2 + 311))]) E.1 E.2.1 dL_bound_13 hl (by decide) rfl (fun ls hl => ?_)
        refine lv_iconst (v := (1 : Int32)) E.1 E.2.1 dL_bound_15 (by decide) ?_
        exact e_iW E hW hr hlk rfl rfl (by decide) (by decide) dL_bound_16
      · skip
        by_cases hx1 : ex = 2
        · subst hx1
          obtain ⟨rfl, rfl, rfl⟩ : (2 : Int32) = r0 ∧ σ2 = σ1 ∧ ρ = ρ1 := by simpa [wrp] using h
          refine w_catch E hN [(0, 10, 13, 19)] [(0, 10, 21, 13)] (0, 10, 17, 21) hT (ex := 2) (by decide) (fun y hy => by
            simp only [List.mem_cons, List.not_mem_nil, or_false] at hy
            rcases hy with rfl
            · exact ⟨by decide, 1, by decide, by decide, by decide, kw_635⟩) (by decide) (by decide) kw_636 cst_2 h1 h2 h3 ?_
          refine lv_astore (lv' := [(4, .ref q9), (0, .ref (G.2.2.2 + 0)), (1, .int a1), (2, .int a2), (3, .ref (G.2.2.2 + 311))]) E.1 E.2.1 dL_bound_17 hl (by decide) rfl (fun ls hl => ?_)
          refine lv_iconst (v := (2 : Int32)) E.1 E.2.1 dL_bound_19 (by decide) ?_
          exact e_iW E hW hr hlk rfl rfl (by decide) (by decide) dL_bound_20
        · skip
          by_cases hx2 : ex = 3
          · subst hx2
            obtain ⟨rfl, rfl, rfl⟩ : (3 : Int32) = r0 ∧ σ2 = σ1 ∧ ρ = ρ1 := by simpa [wrp] using h
            refine w_catch E hN [(0, 10, 13, 19), (0, 10, 17, 21)] [] (0, 10, 21, 13) hT (ex := 3) (by decide) (fun y hy => by
              simp only [List.mem_cons, List.not_mem_nil, or_false] at hy
              rcases hy with rfl | rfl
              · exact ⟨by decide, 1, by decide, by decide, by decide, kw_635⟩
              · exact ⟨by decide, 2, by decide, by decide, by decide, kw_636⟩) (by decide) (by decide) kw_275 cst_3 h1 h2 h3 ?_
            refine lv_astore (lv' := [(4, .ref q9), (0, .ref (G.2.2.2 + 0)), (1, .int a1), (2, .int a2), (3, .ref (G.2.2.2 + 311))]) E.1 E.2.1 dL_bound_21 hl (by decide) rfl (fun ls hl => ?_)
            refine lv_iconst (v := (3 : Int32)) E.1 E.2.1 dL_bound_23 (by decide) ?_
            exact e_iW E hW hr hlk rfl rfl (by decide) (by decide) dL_bound_24
          · skip
            simp [wrp, hx0, hx1, hx2] at h
    · cases hrv
  · rcases r with ex9 | v9
    · cases hrv
    · cases hrv
      refine W.eq (g2 := F0 m 8 ls [.int v9, .int 0, .ref (G.2.2.2 + 311)]) rfl ?_
      obtain ⟨rfl, rfl, rfl⟩ : (0 : Int32) = r0 ∧ σ2 = σ1 ∧ sJ ρ 0 0 (Int32.toInt64 v9) = ρ1 := by simpa [wrp] using h
      refine lv_i2l E.1 E.2.1 dL_bound_8 rfl ?_
      refine r_last E hW (q := 311) (n := 1) rfl vin01 dL_bound_9 (fun σ9 H locs eσ9 hW => ?_)
      have eσ9 : σ9 = sJ (jn σ2 τ ρ) 311 0 (Int32.toInt64 v9) := eσ9
      rw [jn_out] at eσ9; subst eσ9
      refine lv_goto (tgt := 25) E.1 E.2.1 dL_bound_10 (by decide) ?_
      refine lv_iconst (v := (0 : Int32)) E.1 E.2.1 dL_bound_25 (by decide) ?_
      exact e_iW E hW hr hlk rfl rfl (by decide) (by decide) dL_bound_26
def f_L_value (a1 : Int32) (a2 : Int32) (a3 : Int32) (a4 : Int32) (σ ρ : St) : Option (Int32 × St × St) := wrp [1, 2, 3] Int32.toInt64 (f_X6_value 0 a1 a2 a3 a4 σ) ρ
set_option maxRecDepth 100000 in
theorem m_L_value {l : Launch} {G : GP} {sz : Nat} {a1 : Int32} {a2 : Int32} {a3 : Int32} {a4 : Int32} {σ τ ρ σ1 ρ1 : St} {r0 : Int32} (hl9 : l.stackTraces = false) (h : f_L_value a1 a2 a3 a4 σ ρ = some (r0, σ1, ρ1)) : Met l yL_value [.codeWith yL_value cL_value 7 (some .int) [(0, 14, 17, 19), (0, 14, 21, 21), (0, 14, 25, 13)]] ({ frames := 8, cells := 5, slots := 30, locals := 152 } : Room) (va_Pc [.ref (G.2.2.2 + 0), .int a1, .int a2, .int a3, .int a4, .ref (G.2.2.2 + 311)] (PreL G sz (jn σ τ ρ))) (QO (PoC G skA (jn σ1 τ ρ1)) (Aw G.2.2.2 skA.1 sz) (some (.int r0))) 5 30 (Aw G.2.2.2 skA.1 sz) := by
  obtain ⟨r, σ2, hf⟩ : ∃ r σ2, f_X6_value 0 a1 a2 a3 a4 σ = some (r, σ2) := by
    exact wrp_some h
  unfold f_L_value at h; rw [hf] at h
  refine mkMetW (by decide +kernel) (Nat.le_of_ble_eq_true rfl) ?_
  intro p e s m below meth c ls E hW hl hr hlk hT hN
  have hl : lv_has ls 7 [(0, .ref (G.2.2.2 + 0)), (1, .int a1), (2, .int a2), (3, .int a3), (4, .int a4), (5, .ref (G.2.2.2 + 311))] := hl
  generalize Aw G.2.2.2 skA.1 s.heap.size = A0 at E hW ⊢
  generalize ([.ref (G.2.2.2 + 0), .int a1, .int a2, .int a3, .int a4, .ref (G.2.2.2 + 311)] : List Value).toArray = args
  refine lv_aload E.1 E.2.1 dL_value_0 (lv_at hl 5 rfl) ?_
  refine lv_iconst (v := (0 : Int32)) E.1 E.2.1 dL_value_2 (by decide) ?_
  refine lv_aload_n E.1 E.2.1 dL_value_3 rfl (lv_at hl 0 rfl) ?_
  refine lv_iload_n E.1 E.2.1 dL_value_4 rfl (lv_at hl 1 rfl) ?_
  refine lv_iload_n E.1 E.2.1 dL_value_5 rfl (lv_at hl 2 rfl) ?_
  refine lv_iload_n E.1 E.2.1 dL_value_6 rfl (lv_at hl 3 rfl) ?_
  refine lv_iload E.1 E.2.1 dL_value_7 (lv_at hl 4 rfl) ?_
  refine l_CX (As := [.int a1, .int a2, .int a3, .int a4]) (rest := [.int 0, .ref (G.2.2.2 + 311)]) E hW (m_X6_value hl9 hf) rfl kw_718 (⟨kw_719, kw_720, kw_1, kw_721⟩ : wV yX6_value cX6_value 8 (some .int)) (⟨⟨by decide +kernel, by decide +kernel⟩, by decide +kernel⟩ : yOK yX6_value 4) ⟨rfl, rfl⟩ ⟨(Nat.le_of_ble_eq_true rfl), (Nat.le_of_ble_eq_true rfl)⟩ (lv_size hl) (Nat.le_of_ble_eq_true rfl) ⟨(Nat.le_of_ble_eq_true rfl), (Nat.le_of_ble_eq_true rfl)⟩ rfl dL_value_9 (fun ex ce q9 H locs hrv hW h1 h2 h3 => ?_) (fun v H locs hrv hW => ?_)
  · rcases r with ex9 | v9
    · cases hrv
      by_cases hx0 : ex = 1
      · subst hx0
        obtain ⟨rfl, rfl, rfl⟩ : (1 : Int32) = r0 ∧ σ2 = σ1 ∧ ρ = ρ1 := by simpa [wrp] using h
        refine w_catch E hN [] [(0, 14, 21, 21), (0, 14, 25, 13)] (0, 14, 17, 19) hT (ex := 1) (by decide) (fun y hy => by cases hy) (by decide) (by decide) kw_635 cst_1 h1 h2 h3 ?_
        refine lv_astore (lv' := [(6, .ref q9), (0, .ref (G.2.2.2 + 0)), (1, .int a1), (2, .int a2), (3, .int a3), (4, .int a4), (5, .ref (G.2.2.2 + 311))]) E.1 E.2.1 dL_value_17 hl (by decide) rfl (fun ls hl => ?_)
        refine lv_iconst (v := (1 : Int32)) E.1 E.2.1 dL_value_19 (by decide) ?_
        exact e_iW E hW hr hlk rfl rfl (by decide) (by decide) dL_value_20
      · skip
        by_cases hx1 : ex = 2
        · subst hx1
          obtain ⟨rfl, rfl, rfl⟩ : (2 : Int32) = r0 ∧ σ2 = σ1 ∧ ρ = ρ1 := by simpa [wrp] using h
          refine w_catch E hN [(0, 14, 17, 19)] [(0, 14, 25, 13)] (0, 14, 21, 21) hT (ex := 2) (by decide) (fun y hy => by
            simp only [List.mem_cons, List.not_mem_nil, or_false] at hy
            rcases hy with rfl
            · exact ⟨by decide, 1, by decide, by decide, by decide, kw_635⟩) (by decide) (by decide) kw_636 cst_2 h1 h2 h3 ?_
          refine lv_astore (lv' := [(6, .ref q9), (0, .ref (G.2.2.2 + 0)), (1, .int a1), (2, .int a2), (3, .int a3), (4, .int a4), (5, .ref (G.2.2.2 + 311))]) E.1 E.2.1 dL_value_21 hl (by decide) rfl (fun ls hl => ?_)
          refine lv_iconst (v := (2 : Int32)) E.1 E.2.1 dL_value_23 (by decide) ?_
          exact e_iW E hW hr hlk rfl rfl (by decide) (by decide) dL_value_24
        · skip
          by_cases hx2 : ex = 3
          · subst hx2
            obtain ⟨rfl, rfl, rfl⟩ : (3 : Int32) = r0 ∧ σ2 = σ1 ∧ ρ = ρ1 := by simpa [wrp] using h
            refine w_catch E hN [(0, 14, 17, 19), (0, 14, 21, 21)] [] (0, 14, 25, 13) hT (ex := 3) (by decide) (fun y hy => by
              simp only [List.mem_cons, List.not_mem_nil, or_false] at hy
              rcases hy with rfl | rfl
              · exact ⟨by decide, 1, by decide, by decide, by decide, kw_635⟩
              · exact ⟨by decide, 2, by decide, by decide, by decide, kw_636⟩) (by decide) (by decide) kw_275 cst_3 h1 h2 h3 ?_
            refine lv_astore (lv' := [(6, .ref q9), (0, .ref (G.2.2.2 + 0)), (1, .int a1), (2, .int a2), (3, .int a3), (4, .int a4), (5, .ref (G.2.2.2 + 311))]) E.1 E.2.1 dL_value_25 hl (by decide) rfl (fun ls hl => ?_)
            refine lv_iconst (v := (3 : Int32)) E.1 E.2.1 dL_value_27 (by decide) ?_
            exact e_iW E hW hr hlk rfl rfl (by decide) (by decide) dL_value_28
          · skip
            simp [wrp, hx0, hx1, hx2] at h
    · cases hrv
  · rcases r with ex9 | v9
    · cases hrv
    · cases hrv
      refine W.eq (g2 := F0 m 12 ls [.int v9, .int 0, .ref (G.2.2.2 + 311)]) rfl ?_
      obtain ⟨rfl, rfl, rfl⟩ : (0 : Int32) = r0 ∧ σ2 = σ1 ∧ sJ ρ 0 0 (Int32.toInt64 v9) = ρ1 := by simpa [wrp] using h
      refine lv_i2l E.1 E.2.1 dL_value_12 rfl ?_
      refine r_last E hW (q := 311) (n := 1) rfl vin01 dL_value_13 (fun σ9 H locs eσ9 hW => ?_)
      have eσ9 : σ9 = sJ (jn σ2 τ ρ) 311 0 (Int32.toInt64 v9) := eσ9
      rw [jn_out] at eσ9; subst eσ9
      refine lv_goto (tgt := 29) E.1 E.2.1 dL_value_14 (by decide) ?_
      refine lv_iconst (v := (0 : Int32)) E.1 E.2.1 dL_value_29 (by decide) ?_
      exact e_iW E hW hr hlk rfl rfl (by decide) (by decide) dL_value_30
def f_L_degree (a1 : Int32) (σ ρ : St) : Option (Int32 × St × St) := wrp [1, 2] Int32.toInt64 (f_X6_degree 0 a1 σ) ρ
set_option maxRecDepth 100000 in
theorem m_L_degree {l : Launch} {G : GP} {sz : Nat} {a1 : Int32} {σ τ ρ σ1 ρ1 : St} {r0 : Int32} (hl9 : l.stackTraces = false) (h : f_L_degree a1 σ ρ = some (r0, σ1, ρ1)) : Met l yL_degree [.codeWith yL_degree cL_degree 4 (some .int) [(0, 9, 12, 19), (0, 9, 15, 21)]] ({ frames := 8, cells := 2, slots := 12, locals := 142 } : Room) (va_Pc [.ref (G.2.2.2 + 0), .int a1, .ref (G.2.2.2 + 311)] (PreL G sz (jn σ τ ρ))) (QO (PoC G skA (jn σ1 τ ρ1)) (Aw G.2.2.2 skA.1 sz) (some (.int r0))) 2 12 (Aw G.2.2.2 skA.1 sz) := by
  obtain ⟨r, σ2, hf⟩ : ∃ r σ2, f_X6_degree 0 a1 σ = some (r, σ2) := by
    exact wrp_some h
  unfold f_L_degree at h; rw [hf] at h
  refine mkMetW (by decide +kernel) (Nat.le_of_ble_eq_true rfl) ?_
  intro p e s m below meth c ls E hW hl hr hlk hT hN
  have hl : lv_has ls 4 [(0, .ref (G.2.2.2 + 0)), (1, .int a1), (2, .ref (G.2.2.2 + 311))] := hl
  generalize Aw G.2.2.2 skA.1 s.heap.size = A0 at E hW ⊢
  generalize ([.ref (G.2.2.2 + 0), .int a1, .ref (G.2.2.2 + 311)] : List Value).toArray = args
  refine lv_aload_n E.1 E.2.1 dL_degree_0 rfl (lv_at hl 2 rfl) ?_
  refine lv_iconst (v := (0 : Int32)) E.1 E.2.1 dL_degree_1 (by decide) ?_
  refine lv_aload_n E.1 E.2.1 dL_degree_2 rfl (lv_at hl 0 rfl) ?_
  refine lv_iload_n E.1 E.2.1 dL_degree_3 rfl (lv_at hl 1 rfl) ?_
  refine l_CX (As := [.int a1]) (rest := [.int 0, .ref (G.2.2.2 + 311)]) E hW (m_X6_degree hl9 hf) rfl kw_739 (⟨kw_740, kw_741, kw_1, kw_742⟩ : wV yX6_degree cX6_degree 2 (some .int)) (⟨⟨by decide +kernel, by decide +kernel⟩, by decide +kernel⟩ : yOK yX6_degree 1) ⟨rfl, rfl⟩ ⟨(Nat.le_of_ble_eq_true rfl), (Nat.le_of_ble_eq_true rfl)⟩ (lv_size hl) (Nat.le_of_ble_eq_true rfl) ⟨(Nat.le_of_ble_eq_true rfl), (Nat.le_of_ble_eq_true rfl)⟩ rfl dL_degree_4 (fun ex ce q9 H locs hrv hW h1 h2 h3 => ?_) (fun v H locs hrv hW => ?_)
  · rcases r with ex9 | v9
    · cases hrv
      by_cases hx0 : ex = 1
      · subst hx0
        obtain ⟨rfl, rfl, rfl⟩ : (1 : Int32) = r0 ∧ σ2 = σ1 ∧ ρ = ρ1 := by simpa [wrp] using h
        refine w_catch E hN [] [(0, 9, 15, 21)] (0, 9, 12, 19) hT (ex := 1) (by decide) (fun y hy => by cases hy) (by decide) (by decide) kw_635 cst_1 h1 h2 h3 ?_
        refine lv_astore_n (lv' := [(3, .ref q9), (0, .ref (G.2.2.2 + 0)), (1, .int a1), (2, .ref (G.2.2.2 + 311))]) E.1 E.2.1 dL_degree_12 rfl hl (by decide) rfl (fun ls hl => ?_)
        refine lv_iconst (v := (1 : Int32)) E.1 E.2.1 dL_degree_13 (by decide) ?_
        exact e_iW E hW hr hlk rfl rfl (by decide) (by decide) dL_degree_14
      · skip
        by_cases hx1 : ex = 2
        · subst hx1
          obtain ⟨rfl, rfl, rfl⟩ : (2 : Int32) = r0 ∧ σ2 = σ1 ∧ ρ = ρ1 := by simpa [wrp] using h
          refine w_catch E hN [(0, 9, 12, 19)] [] (0, 9, 15, 21) hT (ex := 2) (by decide) (fun y hy => by
            simp only [List.mem_cons, List.not_mem_nil, or_false] at hy
            rcases hy with rfl
            · exact ⟨by decide, 1, by decide, by decide, by decide, kw_635⟩) (by decide) (by decide) kw_636 cst_2 h1 h2 h3 ?_
          refine lv_astore_n (lv' := [(3, .ref q9), (0, .ref (G.2.2.2 + 0)), (1, .int a1), (2, .ref (G.2.2.2 + 311))]) E.1 E.2.1 dL_degree_15 rfl hl (by decide) rfl (fun ls hl => ?_)
          refine lv_iconst (v := (2 : Int32)) E.1 E.2.1 dL_degree_16 (by decide) ?_
          exact e_iW E hW hr hlk rfl rfl (by decide) (by decide) dL_degree_17
        · skip
          simp [wrp, hx0, hx1] at h
    · cases hrv
  · rcases r with ex9 | v9
    · cases hrv
    · cases hrv
      refine W.eq (g2 := F0 m 7 ls [.int v9, .int 0, .ref (G.2.2.2 + 311)]) rfl ?_
      obtain ⟨rfl, rfl, rfl⟩ : (0 : Int32) = r0 ∧ σ2 = σ1 ∧ sJ ρ 0 0 (Int32.toInt64 v9) = ρ1 := by simpa [wrp] using h
      refine lv_i2l E.1 E.2.1 dL_degree_7 rfl ?_
      refine r_last E hW (q := 311) (n := 1) rfl vin01 dL_degree_8 (fun σ9 H locs eσ9 hW => ?_)
      have eσ9 : σ9 = sJ (jn σ2 τ ρ) 311 0 (Int32.toInt64 v9) := eσ9
      rw [jn_out] at eσ9; subst eσ9
      refine lv_goto (tgt := 18) E.1 E.2.1 dL_degree_9 (by decide) ?_
      refine lv_iconst (v := (0 : Int32)) E.1 E.2.1 dL_degree_18 (by decide) ?_
      exact e_iW E hW hr hlk rfl rfl (by decide) (by decide) dL_degree_19
def f_L_covers (a1 : Int32) (a2 : Int32) (σ ρ : St) : Option (Int32 × St × St) := wrp [1, 2] tz (f_X6_covers 0 a1 a2 σ) ρ
set_option maxRecDepth 100000 in
theorem m_L_covers {l : Launch} {G : GP} {sz : Nat} {a1 : Int32} {a2 : Int32} {σ τ ρ σ1 ρ1 : St} {r0 : Int32} (hl9 : l.stackTraces = false) (h : f_L_covers a1 a2 σ ρ = some (r0, σ1, ρ1)) : Met l yL_covers [.codeWith yL_covers cL_covers 5 (some .int) [(0, 17, 20, 19), (0, 17, 24, 21)]] ({ frames := 8, cells := 4, slots := 24, locals := 145 } : Room) (va_Pc [.ref (G.2.2.2 + 0), .int a1, .int a2, .ref (G.2.2.2 + 311)] (PreL G sz (jn σ τ ρ))) (QO (PoC G skA (jn σ1 τ ρ1)) (Aw G.2.2.2 skA.1 sz) (some (.int r0))) 4 24 (Aw G.2.2.2 skA.1 sz) := by
  obtain ⟨r, σ2, hf⟩ : ∃ r σ2, f_X6_covers 0 a1 a2 σ = some (r, σ2) := by
    exact wrp_some h
  unfold f_L_covers at h; rw [hf] at h
  refine mkMetW (by decide +kernel) (Nat.le_of_ble_eq_true rfl) ?_
  intro p e s m below meth c ls E hW hl hr hlk hT hN
  have hl : lv_has ls 5 [(0, .ref (G.2.2.2 + 0)), (1, .int a1), (2, .int a2), (3, .ref (G.2.2.2 + 311))] := hl
  generalize Aw G.2.2.2 skA.1 s.heap.size = A0 at E hW ⊢
  generalize ([.ref (G.2.2.2 + 0), .int a1, .int a2, .ref (G.2.2.2 + 311)] : List Value).toArray = args
  refine lv_aload_n E.1 E.2.1 dL_covers_0 rfl (lv_at hl 3 rfl) ?_
  refine lv_iconst (v := (0 : Int32)) E.1 E.2.1 dL_covers_1 (by decide) ?_
  refine lv_aload_n E.1 E.2.1 dL_covers_2 rfl (lv_at hl 0 rfl) ?_
  refine lv_iload_n E.1 E.2.1 dL_covers_3 rfl (lv_at hl 1 rfl) ?_
  refine lv_iload_n E.1 E.2.1 dL_covers_4 rfl (lv_at hl 2 rfl) ?_
  refine l_CX (As := [.int a1, .int a2]) (rest := [.int 0, .ref (G.2.2.2 + 311)]) E hW (m_X6_covers hl9 hf) rfl kw_751 (⟨kw_752, kw_753, kw_1, kw_754⟩ : wV yX6_covers cX6_covers 5 (some .boolean)) (⟨⟨by decide +kernel, by decide +kernel⟩, by decide +kernel⟩ : yOK yX6_covers 2) ⟨rfl, rfl⟩ ⟨(Nat.le_of_ble_eq_true rfl), (Nat.le_of_ble_eq_true rfl)⟩ (lv_size hl) (Nat.le_of_ble_eq_true rfl) ⟨(Nat.le_of_ble_eq_true rfl), (Nat.le_of_ble_eq_true rfl)⟩ rfl dL_covers_5 (fun ex ce q9 H locs hrv hW h1 h2 h3 => ?_) (fun v H locs hrv hW => ?_)
  · rcases r with ex9 | v9
    · cases hrv
      by_cases hx0 : ex = 1
      · subst hx0
        obtain ⟨rfl, rfl, rfl⟩ : (1 : Int32) = r0 ∧ σ2 = σ1 ∧ ρ = ρ1 := by simpa [wrp] using h
        refine w_catch E hN [] [(0, 17, 24, 21)] (0, 17, 20, 19) hT (ex := 1) (by decide) (fun y hy => by cases hy) (by decide) (by decide) kw_635 cst_1 h1 h2 h3 ?_
        refine lv_astore (lv' := [(4, .ref q9), (0, .ref (G.2.2.2 + 0)), (1, .int a1), (2, .int a2), (3, .ref (G.2.2.2 + 311))]) E.1 E.2.1 dL_covers_20 hl (by decide) rfl (fun ls hl => ?_)
        refine lv_iconst (v := (1 : Int32)) E.1 E.2.1 dL_covers_22 (by decide) ?_
        exact e_iW E hW hr hlk rfl rfl (by decide) (by decide) dL_covers_23
      · skip
        by_cases hx1 : ex = 2
        · subst hx1
          obtain ⟨rfl, rfl, rfl⟩ : (2 : Int32) = r0 ∧ σ2 = σ1 ∧ ρ = ρ1 := by simpa [wrp] using h
          refine w_catch E hN [(0, 17, 20, 19)] [] (0, 17, 24, 21) hT (ex := 2) (by decide) (fun y hy => by
            simp only [List.mem_cons, List.not_mem_nil, or_false] at hy
            rcases hy with rfl
            · exact ⟨by decide, 1, by decide, by decide, by decide, kw_635⟩) (by decide) (by decide) kw_636 cst_2 h1 h2 h3 ?_
          refine lv_astore (lv' := [(4, .ref q9), (0, .ref (G.2.2.2 + 0)), (1, .int a1), (2, .int a2), (3, .ref (G.2.2.2 + 311))]) E.1 E.2.1 dL_covers_24 hl (by decide) rfl (fun ls hl => ?_)
          refine lv_iconst (v := (2 : Int32)) E.1 E.2.1 dL_covers_26 (by decide) ?_
          exact e_iW E hW hr hlk rfl rfl (by decide) (by decide) dL_covers_27
        · skip
          simp [wrp, hx0, hx1] at h
    · cases hrv
  · rcases r with ex9 | v9
    · cases hrv
    · cases hrv
      refine W.eq (g2 := F0 m 8 ls [.int v9, .int 0, .ref (G.2.2.2 + 311)]) rfl ?_
      obtain ⟨rfl, rfl, rfl⟩ : (0 : Int32) = r0 ∧ σ2 = σ1 ∧ sJ ρ 0 0 (tz v9) = ρ1 := by simpa [wrp] using h
      refine lv_if_eq (tgt := 15) E.1 E.2.1 dL_covers_8 (by decide) (fun g => ?_) (fun g => ?_)
      · refine lv_lconst (v := (0 : Int64)) E.1 E.2.1 dL_covers_15 (by decide) ?_
        refine W.eq (g2 := F0 m 16 ls [.long 0, .int 0, .ref (G.2.2.2 + 311)]) rfl ?_
        refine r_last E hW (q := 311) (n := 1) rfl vin01 dL_covers_16 (fun σ9 H locs eσ9 hW => ?_)
        have eσ9 : σ9 = sJ (jn σ2 τ ρ) 311 0 0 := eσ9
        rw [jn_out] at eσ9; subst eσ9
        refine lv_goto (tgt := 28) E.1 E.2.1 dL_covers_17 (by decide) ?_
        refine lv_iconst (v := (0 : Int32)) E.1 E.2.1 dL_covers_28 (by decide) ?_
        exact e_iW E hW hr hlk rfl (by simp [tz, g]) (by decide) (by decide) dL_covers_29
      · refine lv_lconst (v := (1 : Int64)) E.1 E.2.1 dL_covers_11 (by decide) ?_
        refine lv_goto (tgt := 16) E.1 E.2.1 dL_covers_12 (by decide) ?_
        refine W.eq (g2 := F0 m 16 ls [.long 1, .int 0, .ref (G.2.2.2 + 311)]) rfl ?_
        refine r_last E hW (q := 311) (n := 1) rfl vin01 dL_covers_16 (fun σ9 H locs eσ9 hW => ?_)
        have eσ9 : σ9 = sJ (jn σ2 τ ρ) 311 0 1 := eσ9
        rw [jn_out] at eσ9; subst eσ9
        refine lv_goto (tgt := 28) E.1 E.2.1 dL_covers_17 (by decide) ?_
        refine lv_iconst (v := (0 : Int32)) E.1 E.2.1 dL_covers_28 (by decide) ?_
        exact e_iW E hW hr hlk rfl (by simp [tz, g]) (by decide) (by decide) dL_covers_29
def f_L_reason (a1 : Int32) (a2 : Int32) (a3 : Int32) (σ ρ : St) : Option (Int32 × St × St) := wrp [1, 2] Int32.toInt64 (f_X6_reason 0 a1 a2 a3 σ) ρ
set_option maxRecDepth 100000 in
theorem m_L_reason {l : Launch} {G : GP} {sz : Nat} {a1 : Int32} {a2 : Int32} {a3 : Int32} {σ τ ρ σ1 ρ1 : St} {r0 : Int32} (hl9 : l.stackTraces = false) (h : f_L_reason a1 a2 a3 σ ρ = some (r0, σ1, ρ1)) : Met l yL_reason [.codeWith yL_reason cL_reason 6 (some .int) [(0, 12, 15, 19), (0, 12, 19, 21)]] ({ frames := 8, cells := 6, slots := 36, locals := 147 } : Room) (va_Pc [.ref (G.2.2.2 + 0), .int a1, .int a2, .int a3, .ref (G.2.2.2 + 311)] (PreL G sz (jn σ τ ρ))) (QO (PoC G skA (jn σ1 τ ρ1)) (Aw G.2.2.2 skA.1 sz) (some (.int r0))) 6 36 (Aw G.2.2.2 skA.1 sz) := by
  obtain ⟨r, σ2, hf⟩ : ∃ r σ2, f_X6_reason 0 a1 a2 a3 σ = some (r, σ2) := by
    exact wrp_some h
  unfold f_L_reason at h; rw [hf] at h
  refine mkMetW (by decide +kernel) (Nat.le_of_ble_eq_true rfl) ?_
  intro p e s m below meth c ls E hW hl hr hlk hT hN
  have hl : lv_has ls 6 [(0, .ref (G.2.2.2 + 0)), (1, .int a1), (2, .int a2), (3, .int a3), (4, .ref (G.2.2.2 + 311))] := hl
  generalize Aw G.2.2.2 skA.1 s.heap.size = A0 at E hW ⊢
  generalize ([.ref (G.2.2.2 + 0), .int a1, .int a2, .int a3, .ref (G.2.2.2 + 311)] : List Value).toArray = args
  refine lv_aload E.1 E.2.1 dL_reason_0 (lv_at hl 4 rfl) ?_
  refine lv_iconst (v := (0 : Int32)) E.1 E.2.1 dL_reason_2 (by decide) ?_
  refine lv_aload_n E.1 E.2.1 dL_reason_3 rfl (lv_at hl 0 rfl) ?_
  refine lv_iload_n E.1 E.2.1 dL_reason_4 rfl (lv_at hl 1 rfl) ?_
  refine lv_iload_n E.1 E.2.1 dL_reason_5 rfl (lv_at hl 2 rfl) ?_
  refine lv_iload_n E.1 E.2.1 dL_reason_6 rfl (lv_at hl 3 rfl) ?_
  refine l_CX (As := [.int a1, .int a2, .int a3]) (rest := [.int 0, .ref (G.2.2.2 + 311)]) E hW (m_X6_reason hl9 hf) rfl kw_764 (⟨kw_765, kw_766, kw_1, kw_767⟩ : wV yX6_reason cX6_reason 7 (some .int)) (⟨⟨by decide +kernel, by decide +kernel⟩, by decide +kernel⟩ : yOK yX6_reason 3) ⟨rfl, rfl⟩ ⟨(Nat.le_of_ble_eq_true rfl), (Nat.le_of_ble_eq_true rfl)⟩ (lv_size hl) (Nat.le_of_ble_eq_true rfl) ⟨(Nat.le_of_ble_eq_true rfl), (Nat.le_of_ble_eq_true rfl)⟩ rfl dL_reason_7 (fun ex ce q9 H locs hrv hW h1 h2 h3 => ?_) (fun v H locs hrv hW => ?_)
  · rcases r with ex9 | v9
    · cases hrv
      by_cases hx0 : ex = 1
      · subst hx0
        obtain ⟨rfl, rfl, rfl⟩ : (1 : Int32) = r0 ∧ σ2 = σ1 ∧ ρ = ρ1 := by simpa [wrp] using h
        refine w_catch E hN [] [(0, 12, 19, 21)] (0, 12, 15, 19) hT (ex := 1) (by decide) (fun y hy => by cases hy) (by decide) (by decide) kw_635 cst_1 h1 h2 h3 ?_
        refine lv_astore (lv' := [(5, .ref q9), (0, .ref (G.2.2.2 + 0)), (1, .int a1), (2, .int a2), (3, .int a3), (4, .ref (G.2.2.2 + 311))]) E.1 E.2.1 dL_reason_15 hl (by decide) rfl (fun ls hl => ?_)
        refine lv_iconst (v := (1 : Int32)) E.1 E.2.1 dL_reason_17 (by decide) ?_
        exact e_iW E hW hr hlk rfl rfl (by decide) (by decide) dL_reason_18
      · skip
        by_cases hx1 : ex = 2
        · subst hx1
          obtain ⟨rfl, rfl, rfl⟩ : (2 : Int32) = r0 ∧ σ2 = σ1 ∧ ρ = ρ1 := by simpa [wrp] using h
          refine w_catch E hN [(0, 12, 15, 19)] [] (0, 12, 19, 21) hT (ex := 2) (by decide) (fun y hy => by
            simp only [List.mem_cons, List.not_mem_nil, or_false] at hy
            rcases hy with rfl
            · exact ⟨by decide, 1, by decide, by decide, by decide, kw_635⟩) (by decide) (by decide) kw_636 cst_2 h1 h2 h3 ?_
          refine lv_astore (lv' := [(5, .ref q9), (0, .ref (G.2.2.2 + 0)), (1, .int a1), (2, .int a2), (3, .int a3), (4, .ref (G.2.2.2 + 311))]) E.1 E.2.1 dL_reason_19 hl (by decide) rfl (fun ls hl => ?_)
          refine lv_iconst (v := (2 : Int32)) E.1 E.2.1 dL_reason_21 (by decide) ?_
          exact e_iW E hW hr hlk rfl rfl (by decide) (by decide) dL_reason_22
        · skip
          simp [wrp, hx0, hx1] at h
    · cases hrv
  · rcases r with ex9 | v9
    · cases hrv
    · cases hrv
      refine W.eq (g2 := F0 m 10 ls [.int v9, .int 0, .ref (G.2.2.2 + 311)]) rfl ?_
      obtain ⟨rfl, rfl, rfl⟩ : (0 : Int32) = r0 ∧ σ2 = σ1 ∧ sJ ρ 0 0 (Int32.toInt64 v9) = ρ1 := by simpa [wrp] using h
      refine lv_i2l E.1 E.2.1 dL_reason_10 rfl ?_
      refine r_last E hW (q := 311) (n := 1) rfl vin01 dL_reason_11 (fun σ9 H locs eσ9 hW => ?_)
      have eσ9 : σ9 = sJ (jn σ2 τ ρ) 311 0 (Int32.toInt64 v9) := eσ9
      rw [jn_out] at eσ9; subst eσ9
      refine lv_goto (tgt := 23) E.1 E.2.1 dL_reason_12 (by decide) ?_
      refine lv_iconst (v := (0 : Int32)) E.1 E.2.1 dL_reason_23 (by decide) ?_
      exact e_iW E hW hr hlk rfl rfl (by decide) (by decide) dL_reason_24
def f_L_add (a1 : Int32) (a2 : Int32) (a3 : Int32) (σ ρ : St) : Option (Int32 × St × St) := wrp [1, 2, 4] Int32.toInt64 (f_X6_add 0 a1 a2 a3 σ) ρ
set_option maxRecDepth 100000 in
theorem m_L_add {l : Launch} {G : GP} {sz : Nat} {a1 : Int32} {a2 : Int32} {a3 : Int32} {σ τ ρ σ1 ρ1 : St} {r0 : Int32} (hl9 : l.stackTraces = false) (h : f_L_add a1 a2 a3 σ ρ = some (r0, σ1, ρ1)) : Met l yL_add [.codeWith yL_add cL_add 6 (some .int) [(0, 12, 15, 19), (0, 12, 19, 21), (0, 12, 23, 47)]] ({ frames := 8, cells := 6, slots := 36, locals := 171 } : Room) (va_Pc [.ref (G.2.2.2 + 0), .int a1, .int a2, .int a3, .ref (G.2.2.2 + 311)] (PreL G sz (jn σ τ ρ))) (QO (PoC G skA (jn σ1 τ ρ1)) (Aw G.2.2.2 skA.1 sz) (some (.int r0))) 6 36 (Aw G.2.2.2 skA.1 sz) := by
  obtain ⟨r, σ2, hf⟩ : ∃ r σ2, f_X6_add 0 a1 a2 a3 σ = some (r, σ2) := by
    exact wrp_some h
  unfold f_L_add at h; rw [hf] at h
  refine mkMetW (by decide +kernel) (Nat.le_of_ble_eq_true rfl) ?_
  intro p e s m below meth c ls E hW hl hr hlk hT hN
  have hl : lv_has ls 6 [(0, .ref (G.2.2.2 + 0)), (1, .int a1), (2, .int a2), (3, .int a3), (4, .ref (G.2.2.2 + 311))] := hl
  generalize Aw G.2.2.2 skA.1 s.heap.size = A0 at E hW ⊢
  generalize ([.ref (G.2.2.2 + 0), .int a1, .int a2, .int a3, .ref (G.2.2.2 + 311)] : List Value).toArray = args
  refine lv_aload E.1 E.2.1 dL_add_0 (lv_at hl 4 rfl) ?_
  refine lv_iconst (v := (0 : Int32)) E.1 E.2.1 dL_add_2 (by decide) ?_
  refine lv_aload_n E.1 E.2.1 dL_add_3 rfl (lv_at hl 0 rfl) ?_
  refine lv_iload_n E.1 E.2.1 dL_add_4 rfl (lv_at hl 1 rfl) ?_
  refine lv_iload_n E.1 E.2.1 dL_add_5 rfl (lv_at hl 2 rfl) ?_
  refine lv_iload_n E.1 E.2.1 dL_add_6 rfl (lv_at hl 3 rfl) ?_
  refine l_CX (As := [.int a1, .int a2, .int a3]) (rest := [.int 0, .ref (G.2.2.2 + 311)]) E hW (m_X6_add hl9 hf) rfl kw_774 (⟨kw_775, kw_776, kw_1, kw_777⟩ : wV yX6_add cX6_add 6 (some .int)) (⟨⟨by decide +kernel, by decide +kernel⟩, by decide +kernel⟩ : yOK yX6_add 3) ⟨rfl, rfl⟩ ⟨(Nat.le_of_ble_eq_true rfl), (Nat.le_of_ble_eq_true rfl)⟩ (lv_size hl) (Nat.le_of_ble_eq_true rfl) ⟨(Nat.le_of_ble_eq_true rfl), (Nat.le_of_ble_eq_true rfl)⟩ rfl dL_add_7 (fun ex ce q9 H locs hrv hW h1 h2 h3 => ?_) (fun v H locs hrv hW => ?_)
  · rcases r with ex9 | v9
    · cases hrv
      by_cases hx0 : ex = 1
      · subst hx0
        obtain ⟨rfl, rfl, rfl⟩ : (1 : Int32) = r0 ∧ σ2 = σ1 ∧ ρ = ρ1 := by simpa [wrp] using h
        refine w_catch E hN [] [(0, 12, 19, 21), (0, 12, 23, 47)] (0, 12, 15, 19) hT (ex := 1) (by decide) (fun y hy => by cases hy) (by decide) (by decide) kw_635 cst_1 h1 h2 h3 ?_
        refine lv_astore (lv' := [(5, .ref q9), (0, .ref (G.2.2.2 + 0)), (1, .int a1), (2, .int a2), (3, .int a3), (4, .ref (G.2.2.2 + 311))]) E.1 E.2.1 dL_add_15 hl (by decide) rfl (fun ls hl => ?_)
        refine lv_iconst (v := (1 : Int32)) E.1 E.2.1 dL_add_17 (by decide) ?_
        exact e_iW E hW hr hlk rfl rfl (by decide) (by decide) dL_add_18
      · skip
        by_cases hx1 : ex = 2
        · subst hx1
          obtain ⟨rfl, rfl, rfl⟩ : (2 : Int32) = r0 ∧ σ2 = σ1 ∧ ρ = ρ1 := by simpa [wrp] using h
          refine w_catch E hN [(0, 12, 15, 19)] [(0, 12, 23, 47)] (0, 12, 19, 21) hT (ex := 2) (by decide) (fun y hy => by
            simp only [List.mem_cons, List.not_mem_nil, or_false] at hy
            rcases hy with rfl
            · exact ⟨by decide, 1, by decide, by decide, by decide, kw_635⟩) (by decide) (by decide) kw_636 cst_2 h1 h2 h3 ?_
          refine lv_astore (lv' := [(5, .ref q9), (0, .ref (G.2.2.2 + 0)), (1, .int a1), (2, .int a2), (3, .int a3), (4, .ref (G.2.2.2 + 311))]) E.1 E.2.1 dL_add_19 hl (by decide) rfl (fun ls hl => ?_)
          refine lv_iconst (v := (2 : Int32)) E.1 E.2.1 dL_add_21 (by decide) ?_
          exact e_iW E hW hr hlk rfl rfl (by decide) (by decide) dL_add_22
        · skip
          by_cases hx2 : ex = 4
          · subst hx2
            obtain ⟨rfl, rfl, rfl⟩ : (3 : Int32) = r0 ∧ σ2 = σ1 ∧ ρ = ρ1 := by simpa [wrp] using h
            refine w_catch E hN [(0, 12, 15, 19), (0, 12, 19, 21)] [] (0, 12, 23, 47) hT (ex := 4) (by decide) (fun y hy => by
              simp only [List.mem_cons, List.not_mem_nil, or_false] at hy
              rcases hy with rfl | rfl
              · exact ⟨by decide, 1, by decide, by decide, by decide, kw_635⟩
              · exact ⟨by decide, 2, by decide, by decide, by decide, kw_636⟩) (by decide) (by decide) kw_773 cst_4 h1 h2 h3 ?_
            refine lv_astore (lv' := [(5, .ref q9), (0, .ref (G.2.2.2 + 0)), (1, .int a1), (2, .int a2), (3, .int a3), (4, .ref (G.2.2.2 + 311))]) E.1 E.2.1 dL_add_23 hl (by decide) rfl (fun ls hl => ?_)
            refine lv_iconst (v := (3 : Int32)) E.1 E.2.1 dL_add_25 (by decide) ?_
            exact e_iW E hW hr hlk rfl rfl (by decide) (by decide) dL_add_26
          · skip
            simp [wrp, hx0, hx1, hx2] at h
    · cases hrv
  · rcases r with ex9 | v9
    · cases hrv
    · cases hrv
      refine W.eq (g2 := F0 m 10 ls [.int v9, .int 0, .ref (G.2.2.2 + 311)]) rfl ?_
      obtain ⟨rfl, rfl, rfl⟩ : (0 : Int32) = r0 ∧ σ2 = σ1 ∧ sJ ρ 0 0 (Int32.toInt64 v9) = ρ1 := by simpa [wrp] using h
      refine lv_i2l E.1 E.2.1 dL_add_10 rfl ?_
      refine r_last E hW (q := 311) (n := 1) rfl vin01 dL_add_11 (fun σ9 H locs eσ9 hW => ?_)
      have eσ9 : σ9 = sJ (jn σ2 τ ρ) 311 0 (Int32.toInt64 v9) := eσ9
      rw [jn_out] at eσ9; subst eσ9
      refine lv_goto (tgt := 27) E.1 E.2.1 dL_add_12 (by decide) ?_
      refine lv_iconst (v := (0 : Int32)) E.1 E.2.1 dL_add_27 (by decide) ?_
      exact e_iW E hW hr hlk rfl rfl (by decide) (by decide) dL_add_28
def f_L_subtract (a1 : Int32) (a2 : Int32) (a3 : Int32) (σ ρ : St) : Option (Int32 × St × St) := wrp [1, 2, 4] Int32.toInt64 (f_X6_subtract 0 a1 a2 a3 σ) ρ
set_option maxRecDepth 100000 in
theorem m_L_subtract {l : Launch} {G : GP} {sz : Nat} {a1 : Int32} {a2 : Int32} {a3 : Int32} {σ τ ρ σ1 ρ1 : St} {r0 : Int32} (hl9 : l.stackTraces = false) (h : f_L_subtract a1 a2 a3 σ ρ = some (r0, σ1, ρ1)) : Met l yL_subtract [.codeWith yL_subtract cL_subtract 6 (some .int) [(0, 12, 15, 19), (0, 12, 19, 21), (0, 12, 23, 47)]] ({ frames := 8, cells := 6, slots := 36, locals := 171 } : Room) (va_Pc [.ref (G.2.2.2 + 0), .int a1, .int a2, .int a3, .ref (G.2.2.2 + 311)] (PreL G sz (jn σ τ ρ))) (QO (PoC G skA (jn σ1 τ ρ1)) (Aw G.2.2.2 skA.1 sz) (some (.int r0))) 6 36 (Aw G.2.2.2 skA.1 sz) := by
  obtain ⟨r, σ2, hf⟩ : ∃ r σ2, f_X6_subtract 0 a1 a2 a3 σ = some (r, σ2) := by
    exact wrp_some h
  unfold f_L_subtract at h; rw [hf] at h
  refine mkMetW (by decide +kernel) (Nat.le_of_ble_eq_true rfl) ?_
  intro p e s m below meth c ls E hW hl hr hlk hT hN
  have hl : lv_has ls 6 [(0, .ref (G.2.2.2 + 0)), (1, .int a1), (2, .int a2), (3, .int a3), (4, .ref (G.2.2.2 + 311))] := hl
  generalize Aw G.2.2.2 skA.1 s.heap.size = A0 at E hW ⊢
  generalize ([.ref (G.2.2.2 + 0), .int a1, .int a2, .int a3, .ref (G.2.2.2 + 311)] : List Value).toArray = args
  refine lv_aload E.1 E.2.1 dL_subtract_0 (lv_at hl 4 rfl) ?_
  refine lv_iconst (v := (0 : Int32)) E.1 E.2.1 dL_subtract_2 (by decide) ?_
  refine lv_aload_n E.1 E.2.1 dL_subtract_3 rfl (lv_at hl 0 rfl) ?_
  refine lv_iload_n E.1 E.2.1 dL_subtract_4 rfl (lv_at hl 1 rfl) ?_
  refine lv_iload_n E.1 E.2.1 dL_subtract_5 rfl (lv_at hl 2 rfl) ?_
  refine lv_iload_n E.1 E.2.1 dL_subtract_6 rfl (lv_at hl 3 rfl) ?_
  refine l_CX (As := [.int a1, .int a2, .int a3]) (rest := [.int 0, .ref (G.2.2.2 + 311)]) E hW (m_X6_subtract hl9 hf) rfl kw_807 (⟨kw_808, kw_809, kw_1, kw_810⟩ : wV yX6_subtract cX6_subtract 6 (some .int)) (⟨⟨by decide +kernel, by decide +kernel⟩, by decide +kernel⟩ : yOK yX6_subtract 3) ⟨rfl, rfl⟩ ⟨(Nat.le_of_ble_eq_true rfl), (Nat.le_of_ble_eq_true rfl)⟩ (lv_size hl) (Nat.le_of_ble_eq_true rfl) ⟨(Nat.le_of_ble_eq_true rfl), (Nat.le_of_ble_eq_true rfl)⟩ rfl dL_subtract_7 (fun ex ce q9 H locs hrv hW h1 h2 h3 => ?_) (fun v H locs hrv hW => ?_)
  · rcases r with ex9 | v9
    · cases hrv
      by_cases hx0 : ex = 1
      · subst hx0
        obtain ⟨rfl, rfl, rfl⟩ : (1 : Int32) = r0 ∧ σ2 = σ1 ∧ ρ = ρ1 := by simpa [wrp] using h
        refine w_catch E hN [] [(0, 12, 19, 21), (0, 12, 23, 47)] (0, 12, 15, 19) hT (ex := 1) (by decide) (fun y hy => by cases hy) (by decide) (by decide) kw_635 cst_1 h1 h2 h3 ?_
        refine lv_astore (lv' := [(5, .ref q9), (0, .ref (G.2.2.2 + 0)), (1, .int a1), (2, .int a2), (3, .int a3), (4, .ref (G.2.2.2 + 311))]) E.1 E.2.1 dL_subtract_15 hl (by decide) rfl (fun ls hl => ?_)
        refine lv_iconst (v := (1 : Int32)) E.1 E.2.1 dL_subtract_17 (by decide) ?_
        exact e_iW E hW hr hlk rfl rfl (by decide) (by decide) dL_subtract_18
      · skip
        by_cases hx1 : ex = 2
        · subst hx1
          obtain ⟨rfl, rfl, rfl⟩ : (2 : Int32) = r0 ∧ σ2 = σ1 ∧ ρ = ρ1 := by simpa [wrp] using h
          refine w_catch E hN [(0, 12, 15, 19)] [(0, 12, 23, 47)] (0, 12, 19, 21) hT (ex := 2) (by decide) (fun y hy => by
            simp only [List.mem_cons, List.not_mem_nil, or_false] at hy
            rcases hy with rfl
            · exact ⟨by decide, 1, by decide, by decide, by decide, kw_635⟩) (by decide) (by decide) kw_636 cst_2 h1 h2 h3 ?_
          refine lv_astore (lv' := [(5, .ref q9), (0, .ref (G.2.2.2 + 0)), (1, .int a1), (2, .int a2), (3, .int a3), (4, .ref (G.2.2.2 + 311))]) E.1 E.2.1 dL_subtract_19 hl (by decide) rfl (fun ls hl => ?_)
          refine lv_iconst (v := (2 : Int32)) E.1 E.2.1 dL_subtract_21 (by decide) ?_
          exact e_iW E hW hr hlk rfl rfl (by decide) (by decide) dL_subtract_22
        · skip
          by_cases hx2 : ex = 4
          · subst hx2
            obtain ⟨rfl, rfl, rfl⟩ : (3 : Int32) = r0 ∧ σ2 = σ1 ∧ ρ = ρ1 := by simpa [wrp] using h
            refine w_catch E hN [(0, 12, 15, 19), (0, 12, 19, 21)] [] (0, 12, 23, 47) hT (ex := 4) (by decide) (fun y hy => by
              simp only [List.mem_cons, List.not_mem_nil, or_false] at hy
              rcases hy with rfl | rfl
              · exact ⟨by decide, 1, by decide, by decide, by decide, kw_635⟩
              · exact ⟨by decide, 2, by decide, by decide, by decide, kw_636⟩) (by decide) (by decide) kw_773 cst_4 h1 h2 h3 ?_
            refine lv_astore (lv' := [(5, .ref q9), (0, .ref (G.2.2.2 + 0)), (1, .int a1), (2, .int a2), (3, .int a3), (4, .ref (G.2.2.2 + 311))]) E.1 E.2.1 dL_subtract_23 hl (by decide) rfl (fun ls hl => ?_)
            refine lv_iconst (v := (3 : Int32)) E.1 E.2.1 dL_subtract_25 (by decide) ?_
            exact e_iW E hW hr hlk rfl rfl (by decide) (by decide) dL_subtract_26
          · skip
            simp [wrp, hx0, hx1, hx2] at h
    · cases hrv
  · rcases r with ex9 | v9
    · cases hrv
    · cases hrv
      refine W.eq (g2 := F0 m 10 ls [.int v9, .int 0, .ref (G.2.2.2 + 311)]) rfl ?_
      obtain ⟨rfl, rfl, rfl⟩ : (0 : Int32) = r0 ∧ σ2 = σ1 ∧ sJ ρ 0 0 (Int32.toInt64 v9) = ρ1 := by simpa [wrp] using h
      refine lv_i2l E.1 E.2.1 dL_subtract_10 rfl ?_
      refine r_last E hW (q := 311) (n := 1) rfl vin01 dL_subtract_11 (fun σ9 H locs eσ9 hW => ?_)
      have eσ9 : σ9 = sJ (jn σ2 τ ρ) 311 0 (Int32.toInt64 v9) := eσ9
      rw [jn_out] at eσ9; subst eσ9
      refine lv_goto (tgt := 27) E.1 E.2.1 dL_subtract_12 (by decide) ?_
      refine lv_iconst (v := (0 : Int32)) E.1 E.2.1 dL_subtract_27 (by decide) ?_
      exact e_iW E hW hr hlk rfl rfl (by decide) (by decide) dL_subtract_28
def f_L_multiply (a1 : Int32) (a2 : Int32) (a3 : Int32) (σ ρ : St) : Option (Int32 × St × St) := wrp [1, 2, 4] Int32.toInt64 (f_X6_multiply 0 a1 a2 a3 σ) ρ
set_option maxRecDepth 100000 in
theorem m_L_multiply {l : Launch} {G : GP} {sz : Nat} {a1 : Int32} {a2 : Int32} {a3 : Int32} {σ τ ρ σ1 ρ1 : St} {r0 : Int32} (hl9 : l.stackTraces = false) (h : f_L_multiply a1 a2 a3 σ ρ = some (r0, σ1, ρ1)) : Met l yL_multiply [.codeWith yL_multiply cL_multiply 6 (some .int) [(0, 12, 15, 19), (0, 12, 19, 21), (0, 12, 23, 47)]] ({ frames := 8, cells := 6, slots := 36, locals := 171 } : Room) (va_Pc [.ref (G.2.2.2 + 0), .int a1, .int a2, .int a3, .ref (G.2.2.2 + 311)] (PreL G sz (jn σ τ ρ))) (QO (PoC G skA (jn σ1 τ ρ1)) (Aw G.2.2.2 skA.1 sz) (some (.int r0))) 6 36 (Aw G.2.2.2 skA.1 sz) := by
  obtain ⟨r, σ2, hf⟩ : ∃ r σ2, f_X6_multiply 0 a1 a2 a3 σ = some (r, σ2) := by
    exact wrp_some h
  unfold f_L_multiply at h; rw [hf] at h
  refine mkMetW (by decide +kernel) (Nat.le_of_ble_eq_true rfl) ?_
  intro p e s m below meth c ls E hW hl hr hlk hT hN
  have hl : lv_has ls 6 [(0, .ref (G.2.2.2 + 0)), (1, .int a1), (2, .int a2), (3, .int a3), (4, .ref (G.2.2.2 + 311))] := hl
  generalize Aw G.2.2.2 skA.1 s.heap.size = A0 at E hW ⊢
  generalize ([.ref (G.2.2.2 + 0), .int a1, .int a2, .int a3, .ref (G.2.2.2 + 311)] : List Value).toArray = args
  refine lv_aload E.1 E.2.1 dL_multiply_0 (lv_at hl 4 rfl) ?_
  refine lv_iconst (v := (0 : Int32)) E.1 E.2.1 dL_multiply_2 (by decide) ?_
  refine lv_aload_n E.1 E.2.1 dL_multiply_3 rfl (lv_at hl 0 rfl) ?_
  refine lv_iload_n E.1 E.2.1 dL_multiply_4 rfl (lv_at hl 1 rfl) ?_
  refine lv_iload_n E.1 E.2.1 dL_multiply_5 rfl (lv_at hl 2 rfl) ?_
  refine lv_iload_n E.1 E.2.1 dL_multiply_6 rfl (lv_at hl 3 rfl) ?_
  refine l_CX (As := [.int a1, .int a2, .int a3]) (rest := [.int 0, .ref (G.2.2.2 + 311)]) E hW (m_X6_multiply hl9 hf) rfl kw_815 (⟨kw_816, kw_817, kw_1, kw_818⟩ : wV yX6_multiply cX6_multiply 6 (some .int)) (⟨⟨by decide +kernel, by decide +kernel⟩, by decide +kernel⟩ : yOK yX6_multiply 3) ⟨rfl, rfl⟩ ⟨(Nat.le_of_ble_eq_true rfl), (Nat.le_of_ble_eq_true rfl)⟩ (lv_size hl) (Nat.le_of_ble_eq_true rfl) ⟨(Nat.le_of_ble_eq_true rfl), (Nat.le_of_ble_eq_true rfl)⟩ rfl dL_multiply_7 (fun ex ce q9 H locs hrv hW h1 h2 h3 => ?_) (fun v H locs hrv hW => ?_)
  · rcases r with ex9 | v9
    · cases hrv
      by_cases hx0 : ex = 1
      · subst hx0
        obtain ⟨rfl, rfl, rfl⟩ : (1 : Int32) = r0 ∧ σ2 = σ1 ∧ ρ = ρ1 := by simpa [wrp] using h
        refine w_catch E hN [] [(0, 12, 19, 21), (0, 12, 23, 47)] (0, 12, 15, 19) hT (ex := 1) (by decide) (fun y hy => by cases hy) (by decide) (by decide) kw_635 cst_1 h1 h2 h3 ?_
        refine lv_astore (lv' := [(5, .ref q9), (0, .ref (G.2.2.2 + 0)), (1, .int a1), (2, .int a2), (3, .int a3), (4, .ref (G.2.2.2 + 311))]) E.1 E.2.1 dL_multiply_15 hl (by decide) rfl (fun ls hl => ?_)
        refine lv_iconst (v := (1 : Int32)) E.1 E.2.1 dL_multiply_17 (by decide) ?_
        exact e_iW E hW hr hlk rfl rfl (by decide) (by decide) dL_multiply_18
      · skip
        by_cases hx1 : ex = 2
        · subst hx1
          obtain ⟨rfl, rfl, rfl⟩ : (2 : Int32) = r0 ∧ σ2 = σ1 ∧ ρ = ρ1 := by simpa [wrp] using h
          refine w_catch E hN [(0, 12, 15, 19)] [(0, 12, 23, 47)] (0, 12, 19, 21) hT (ex := 2) (by decide) (fun y hy => by
            simp only [List.mem_cons, List.not_mem_nil, or_false] at hy
            rcases hy with rfl
            · exact ⟨by decide, 1, by decide, by decide, by decide, kw_635⟩) (by decide) (by decide) kw_636 cst_2 h1 h2 h3 ?_
          refine lv_astore (lv' := [(5, .ref q9), (0, .ref (G.2.2.2 + 0)), (1, .int a1), (2, .int a2), (3, .int a3), (4, .ref (G.2.2.2 + 311))]) E.1 E.2.1 dL_multiply_19 hl (by decide) rfl (fun ls hl => ?_)
          refine lv_iconst (v := (2 : Int32)) E.1 E.2.1 dL_multiply_21 (by decide) ?_
          exact e_iW E hW hr hlk rfl rfl (by decide) (by decide) dL_multiply_22
        · skip
          by_cases hx2 : ex = 4
          · subst hx2
            obtain ⟨rfl, rfl, rfl⟩ : (3 : Int32) = r0 ∧ σ2 = σ1 ∧ ρ = ρ1 := by simpa [wrp] using h
            refine w_catch E hN [(0, 12, 15, 19), (0, 12, 19, 21)] [] (0, 12, 23, 47) hT (ex := 4) (by decide) (fun y hy => by
              simp only [List.mem_cons, List.not_mem_nil, or_false] at hy
              rcases hy with rfl | rfl
              · exact ⟨by decide, 1, by decide, by decide, by decide, kw_635⟩
              · exact ⟨by decide, 2, by decide, by decide, by decide, kw_636⟩) (by decide) (by decide) kw_773 cst_4 h1 h2 h3 ?_
            refine lv_astore (lv' := [(5, .ref q9), (0, .ref (G.2.2.2 + 0)), (1, .int a1), (2, .int a2), (3, .int a3), (4, .ref (G.2.2.2 + 311))]) E.1 E.2.1 dL_multiply_23 hl (by decide) rfl (fun ls hl => ?_)
            refine lv_iconst (v := (3 : Int32)) E.1 E.2.1 dL_multiply_25 (by decide) ?_
            exact e_iW E hW hr hlk rfl rfl (by decide) (by decide) dL_multiply_26
          · skip
            simp [wrp, hx0, hx1, hx2] at h
    · cases hrv
  · rcases r with ex9 | v9
    · cases hrv
    · cases hrv
      refine W.eq (g2 := F0 m 10 ls [.int v9, .int 0, .ref (G.2.2.2 + 311)]) rfl ?_
      obtain ⟨rfl, rfl, rfl⟩ : (0 : Int32) = r0 ∧ σ2 = σ1 ∧ sJ ρ 0 0 (Int32.toInt64 v9) = ρ1 := by simpa [wrp] using h
      refine lv_i2l E.1 E.2.1 dL_multiply_10 rfl ?_
      refine r_last E hW (q := 311) (n := 1) rfl vin01 dL_multiply_11 (fun σ9 H locs eσ9 hW => ?_)
      have eσ9 : σ9 = sJ (jn σ2 τ ρ) 311 0 (Int32.toInt64 v9) := eσ9
      rw [jn_out] at eσ9; subst eσ9
      refine lv_goto (tgt := 27) E.1 E.2.1 dL_multiply_12 (by decide) ?_
      refine lv_iconst (v := (0 : Int32)) E.1 E.2.1 dL_multiply_27 (by decide) ?_
      exact e_iW E hW hr hlk rfl rfl (by decide) (by decide) dL_multiply_28
def f_L_compose (a1 : Int32) (a2 : Int32) (a3 : Int32) (a4 : Int32) (σ ρ : St) : Option (Int32 × St × St) := wrp [1, 2, 4] Int32.toInt64 (f_X6_compose 0 a1 a2 a3 a4 σ) ρ
set_option maxRecDepth 100000 in
theorem m_L_compose {l : Launch} {G : GP} {sz : Nat} {a1 : Int32} {a2 : Int32} {a3 : Int32} {a4 : Int32} {σ τ ρ σ1 ρ1 : St} {r0 : Int32} (hl9 : l.stackTraces = false) (h : f_L_compose a1 a2 a3 a4 σ ρ = some (r0, σ1, ρ1)) : Met l yL_compose [.codeWith yL_compose cL_compose 7 (some .int) [(0, 14, 17, 19), (0, 14, 21, 21), (0, 14, 25, 47)]] ({ frames := 8, cells := 8, slots := 48, locals := 173 } : Room) (va_Pc [.ref (G.2.2.2 + 0), .int a1, .int a2, .int a3, .int a4, .ref (G.2.2.2 + 311)] (PreL G sz (jn σ τ ρ))) (QO (PoC G skA (jn σ1 τ ρ1)) (Aw G.2.2.2 skA.1 sz) (some (.int r0))) 8 48 (Aw G.2.2.2 skA.1 sz) := by
  obtain ⟨r, σ2, hf⟩ : ∃ r σ2, f_X6_compose 0 a1 a2 a3 a4 σ = some (r, σ2) := by
    exact wrp_some h
  unfold f_L_compose at h; rw [hf] at h
  refine mkMetW (by decide +kernel) (Nat.le_of_ble_eq_true rfl) ?_
  intro p e s m below meth c ls E hW hl hr hlk hT hN
  have hl : lv_has ls 7 [(0, .ref (G.2.2.2 + 0)), (1, .int a1), (2, .int a2), (3, .int a3), (4, .int a4), (5, .ref (G.2.2.2 + 311))] := hl
  generalize Aw G.2.2.2 skA.1 s.heap.size = A0 at E hW ⊢
  generalize ([.ref (G.2.2.2 + 0), .int a1, .int a2, .int a3, .int a4, .ref (G.2.2.2 + 311)] : List Value).toArray = args
  refine lv_aload E.1 E.2.1 dL_compose_0 (lv_at hl 5 rfl) ?_
  refine lv_iconst (v := (0 : Int32)) E.1 E.2.1 dL_compose_2 (by decide) ?_
  refine lv_aload_n E.1 E.2.1 dL_compose_3 rfl (lv_at hl 0 rfl) ?_
  refine lv_iload_n E.1 E.2.1 dL_compose_4 rfl (lv_at hl 1 rfl) ?_
  refine lv_iload_n E.1 E.2.1 dL_compose_5 rfl (lv_at hl 2 rfl) ?_
  refine lv_iload_n E.1 E.2.1 dL_compose_6 rfl (lv_at hl 3 rfl) ?_
  refine lv_iload E.1 E.2.1 dL_compose_7 (lv_at hl 4 rfl) ?_
  refine l_CX (As := [.int a1, .int a2, .int a3, .int a4]) (rest := [.int 0, .ref (G.2.2.2 + 311)]) E hW (m_X6_compose hl9 hf) rfl kw_823 (⟨kw_824, kw_825, kw_1, kw_826⟩ : wV yX6_compose cX6_compose 8 (some .int)) (⟨⟨by decide +kernel, by decide +kernel⟩, by decide +kernel⟩ : yOK yX6_compose 4) ⟨rfl, rfl⟩ ⟨(Nat.le_of_ble_eq_true rfl), (Nat.le_of_ble_eq_true rfl)⟩ (lv_size hl) (Nat.le_of_ble_eq_true rfl) ⟨(Nat.le_of_ble_eq_true rfl), (Nat.le_of_ble_eq_true rfl)⟩ rfl dL_compose_9 (fun ex ce q9 H locs hrv hW h1 h2 h3 => ?_) (fun v H locs hrv hW => ?_)
  · rcases r with ex9 | v9
    · cases hrv
      by_cases hx0 : ex = 1
      · subst hx0
        obtain ⟨rfl, rfl, rfl⟩ : (1 : Int32) = r0 ∧ σ2 = σ1 ∧ ρ = ρ1 := by simpa [wrp] using h
        refine w_catch E hN [] [(0, 14, 21, 21), (0, 14, 25, 47)] (0, 14, 17, 19) hT (ex := 1) (by decide) (fun y hy => by cases hy) (by decide) (by decide) kw_635 cst_1 h1 h2 h3 ?_
        refine lv_astore (lv' := [(6, .ref q9), (0, .ref (G.2.2.2 + 0)), (1, .int a1), (2, .int a2), (3, .int a3), (4, .int a4), (5, .ref (G.2.2.2 + 311))]) E.1 E.2.1 dL_compose_17 hl (by decide) rfl (fun ls hl => ?_)
        refine lv_iconst (v := (1 : Int32)) E.1 E.2.1 dL_compose_19 (by decide) ?_
        exact e_iW E hW hr hlk rfl rfl (by decide) (by decide) dL_compose_20
      · skip
        by_cases hx1 : ex = 2
        · subst hx1
          obtain ⟨rfl, rfl, rfl⟩ : (2 : Int32) = r0 ∧ σ2 = σ1 ∧ ρ = ρ1 := by simpa [wrp] using h
          refine w_catch E hN [(0, 14, 17, 19)] [(0, 14, 25, 47)] (0, 14, 21, 21) hT (ex := 2) (by decide) (fun y hy => by
            simp only [List.mem_cons, List.not_mem_nil, or_false] at hy
            rcases hy with rfl
            · exact ⟨by decide, 1, by decide, by decide, by decide, kw_635⟩) (by decide) (by decide) kw_636 cst_2 h1 h2 h3 ?_
          refine lv_astore (lv' := [(6, .ref q9), (0, .ref (G.2.2.2 + 0)), (1, .int a1), (2, .int a2), (3, .int a3), (4, .int a4), (5, .ref (G.2.2.2 + 311))]) E.1 E.2.1 dL_compose_21 hl (by decide) rfl (fun ls hl => ?_)
          refine lv_iconst (v := (2 : Int32)) E.1 E.2.1 dL_compose_23 (by decide) ?_
          exact e_iW E hW hr hlk rfl rfl (by decide) (by decide) dL_compose_24
        · skip
          by_cases hx2 : ex = 4
          · subst hx2
            obtain ⟨rfl, rfl, rfl⟩ : (3 : Int32) = r0 ∧ σ2 = σ1 ∧ ρ = ρ1 := by simpa [wrp] using h
            refine w_catch E hN [(0, 14, 17, 19), (0, 14, 21, 21)] [] (0, 14, 25, 47) hT (ex := 4) (by decide) (fun y hy => by
              simp only [List.mem_cons, List.not_mem_nil, or_false] at hy
              rcases hy with rfl | rfl
              · exact ⟨by decide, 1, by decide, by decide, by decide, kw_635⟩
              · exact ⟨by decide, 2, by decide, by decide, by decide, kw_636⟩) (by decide) (by decide) kw_773 cst_4 h1 h2 h3 ?_
            refine lv_astore (lv' := [(6, .ref q9), (0, .ref (G.2.2.2 + 0)), (1, .int a1), (2, .int a2), (3, .int a3), (4, .int a4), (5, .ref (G.2.2.2 + 311))]) E.1 E.2.1 dL_compose_25 hl (by decide) rfl (fun ls hl => ?_)
            refine lv_iconst (v := (3 : Int32)) E.1 E.2.1 dL_compose_27 (by decide) ?_
            exact e_iW E hW hr hlk rfl rfl (by decide) (by decide) dL_compose_28
          · skip
            simp [wrp, hx0, hx1, hx2] at h
    · cases hrv
  · rcases r with ex9 | v9
    · cases hrv
    · cases hrv
      refine W.eq (g2 := F0 m 12 ls [.int v9, .int 0, .ref (G.2.2.2 + 311)]) rfl ?_
      obtain ⟨rfl, rfl, rfl⟩ : (0 : Int32) = r0 ∧ σ2 = σ1 ∧ sJ ρ 0 0 (Int32.toInt64 v9) = ρ1 := by simpa [wrp] using h
      refine lv_i2l E.1 E.2.1 dL_compose_12 rfl ?_
      refine r_last E hW (q := 311) (n := 1) rfl vin01 dL_compose_13 (fun σ9 H locs eσ9 hW => ?_)
      have eσ9 : σ9 = sJ (jn σ2 τ ρ) 311 0 (Int32.toInt64 v9) := eσ9
      rw [jn_out] at eσ9; subst eσ9
      refine lv_goto (tgt := 29) E.1 E.2.1 dL_compose_14 (by decide) ?_
      refine lv_iconst (v := (0 : Int32)) E.1 E.2.1 dL_compose_29 (by decide) ?_
      exact e_iW E hW hr hlk rfl rfl (by decide) (by decide) dL_compose_30
def f_L_integrate (a1 : Int32) (a2 : Int32) (a3 : Int32) (σ ρ : St) : Option (Int32 × St × St) := wrp [1, 2, 3, 4] Int32.toInt64 (f_X6_integrate 0 a1 a2 a3 σ) ρ
set_option maxRecDepth 100000 in
theorem m_L_integrate {l : Launch} {G : GP} {sz : Nat} {a1 : Int32} {a2 : Int32} {a3 : Int32} {σ τ ρ σ1 ρ1 : St} {r0 : Int32} (hl9 : l.stackTraces = false) (h : f_L_integrate a1 a2 a3 σ ρ = some (r0, σ1, ρ1)) : Met l yL_integrate [.codeWith yL_integrate cL_integrate 6 (some .int) [(0, 12, 15, 19), (0, 12, 19, 21), (0, 12, 23, 13), (0, 12, 27, 47)]] ({ frames := 8, cells := 5, slots := 30, locals := 170 } : Room) (va_Pc [.ref (G.2.2.2 + 0), .int a1, .int a2, .int a3, .ref (G.2.2.2 + 311)] (PreL G sz (jn σ τ ρ))) (QO (PoC G skA (jn σ1 τ ρ1)) (Aw G.2.2.2 skA.1 sz) (some (.int r0))) 5 30 (Aw G.2.2.2 skA.1 sz) := by
  obtain ⟨r, σ2, hf⟩ : ∃ r σ2, f_X6_integrate 0 a1 a2 a3 σ = some (r, σ2) := by
    exact wrp_some h
  unfold f_L_integrate at h; rw [hf] at h
  refine mkMetW (by decide +kernel) (Nat.le_of_ble_eq_true rfl) ?_
  intro p e s m below meth c ls E hW hl hr hlk hT hN
  have hl : lv_has ls 6 [(0, .ref (G.2.2.2 + 0)), (1, .int a1), (2, .int a2), (3, .int a3), (4, .ref (G.2.2.2 + 311))] := hl
  generalize Aw G.2.2.2 skA.1 s.heap.size = A0 at E hW ⊢
  generalize ([.ref (G.2.2.2 + 0), .int a1, .int a2, .int a3, .ref (G.2.2.2 + 311)] : List Value).toArray = args
  refine lv_aload E.1 E.2.1 dL_integrate_0 (lv_at hl 4 rfl) ?_
  refine lv_iconst (v := (0 : Int32)) E.1 E.2.1 dL_integrate_2 (by decide) ?_
  refine lv_aload_n E.1 E.2.1 dL_integrate_3 rfl (lv_at hl 0 rfl) ?_
  refine lv_iload_n E.1 E.2.1 dL_integrate_4 rfl (lv_at hl 1 rfl) ?_
  refine lv_iload_n E.1 E.2.1 dL_integrate_5 rfl (lv_at hl 2 rfl) ?_
  refine lv_iload_n E.1 E.2.1 dL_integrate_6 rfl (lv_at hl 3 rfl) ?_
  refine l_CX (As := [.int a1, .int a2, .int a3]) (rest := [.int 0, .ref (G.2.2.2 + 311)]) E hW (m_X6_integrate hl9 hf) rfl kw_830 (⟨kw_831, kw_832, kw_1, kw_833⟩ : wV yX6_integrate cX6_integrate 5 (some .int)) (⟨⟨by decide +kernel, by decide +kernel⟩, by decide +kernel⟩ : yOK yX6_integrate 3) ⟨rfl, rfl⟩ ⟨(Nat.le_of_ble_eq_true rfl), (Nat.le_of_ble_eq_true rfl)⟩ (lv_size hl) (Nat.le_of_ble_eq_true rfl) ⟨(Nat.le_of_ble_eq_true rfl), (Nat.le_of_ble_eq_true rfl)⟩ rfl dL_integrate_7 (fun ex ce q9 H locs hrv hW h1 h2 h3 => ?_) (fun v H locs hrv hW => ?_)
  · rcases r with ex9 | v9
    · cases hrv
      by_cases hx0 : ex = 1
      · subst hx0
        obtain ⟨rfl, rfl, rfl⟩ : (1 : Int32) = r0 ∧ σ2 = σ1 ∧ ρ = ρ1 := by simpa [wrp] using h
        refine w_catch E hN [] [(0, 12, 19, 21), (0, 12, 23, 13), (0, 12, 27, 47)] (0, 12, 15, 19) hT (ex := 1) (by decide) (fun y hy => by cases hy) (by decide) (by decide) kw_635 cst_1 h1 h2 h3 ?_
        refine lv_astore (lv' := [(5, .ref q9), (0, .ref (G.2.2.2 + 0)), (1, .int a1), (2, .int a2), (3, .int a3), (4, .ref (G.2.2.2 + 311))]) E.1 E.2.1 dL_integrate_15 hl (by decide) rfl (fun ls hl => ?_)
        refine lv_iconst (v := (1 : Int32)) E.1 E.2.1 dL_integrate_17 (by decide) ?_
        exact e_iW E hW hr hlk rfl rfl (by decide) (by decide) dL_integrate_18
      · skip
        by_cases hx1 : ex = 2
        · subst hx1
          obtain ⟨rfl, rfl, rfl⟩ : (2 : Int32) = r0 ∧ σ2 = σ1 ∧ ρ = ρ1 := by simpa [wrp] using h
          refine w_catch E hN [(0, 12, 15, 19)] [(0, 12, 23, 13), (0, 12, 27, 47)] (0, 12, 19, 21) hT (ex := 2) (by decide) (fun y hy => by
            simp only [List.mem_cons, List.not_mem_nil, or_false] at hy
            rcases hy with rfl
            · exact ⟨by decide, 1, by decide, by decide, by decide, kw_635⟩) (by decide) (by decide) kw_636 cst_2 h1 h2 h3 ?_
          refine lv_astore (lv' := [(5, .ref q9), (0, .ref (G.2.2.2 + 0)), (1, .int a1), (2, .int a2), (3, .int a3), (4, .ref (G.2.2.2 + 311))]) E.1 E.2.1 dL_integrate_19 hl (by decide) rfl (fun ls hl => ?_)
          refine lv_iconst (v := (2 : Int32)) E.1 E.2.1 dL_integrate_21 (by decide) ?_
          exact e_iW E hW hr hlk rfl rfl (by decide) (by decide) dL_integrate_22
        · skip
          by_cases hx2 : ex = 3
          · subst hx2
            obtain ⟨rfl, rfl, rfl⟩ : (3 : Int32) = r0 ∧ σ2 = σ1 ∧ ρ = ρ1 := by simpa [wrp] using h
            refine w_catch E hN [(0, 12, 15, 19), (0, 12, 19, 21)] [(0, 12, 27, 47)] (0, 12, 23, 13) hT (ex := 3) (by decide) (fun y hy => by
              simp only [List.mem_cons, List.not_mem_nil, or_false] at hy
              rcases hy with rfl | rfl
              · exact ⟨by decide, 1, by decide, by decide, by decide, kw_635⟩
              · exact ⟨by decide, 2, by decide, by decide, by decide, kw_636⟩) (by decide) (by decide) kw_275 cst_3 h1 h2 h3 ?_
            refine lv_astore (lv' := [(5, .ref q9), (0, .ref (G.2.2.2 + 0)), (1, .int a1), (2, .int a2), (3, .int a3), (4, .ref (G.2.2.2 + 311))]) E.1 E.2.1 dL_integrate_23 hl (by decide) rfl (fun ls hl => ?_)
            refine lv_iconst (v := (3 : Int32)) E.1 E.2.1 dL_integrate_25 (by decide) ?_
            exact e_iW E hW hr hlk rfl rfl (by decide) (by decide) dL_integrate_26
          · skip
            by_cases hx3 : ex = 4
            · subst hx3
              obtain ⟨rfl, rfl, rfl⟩ : (4 : Int32) = r0 ∧ σ2 = σ1 ∧ ρ = ρ1 := by simpa [wrp] using h
              refine w_catch E hN [(0, 12, 15, 19), (0, 12, 19, 21), (0, 12, 23, 13)] [] (0, 12, 27, 47) hT (ex := 4) (by decide) (fun y hy => by
                simp only [List.mem_cons, List.not_mem_nil, or_false] at hy
                rcases hy with rfl | rfl | rfl
                · exact ⟨by decide, 1, by decide, by decide, by decide, kw_635⟩
                · exact ⟨by decide, 2, by decide, by decide, by decide, kw_636⟩
                · exact ⟨by decide, 3, by decide, by decide, by decide, kw_275⟩) (by decide) (by decide) kw_773 cst_4 h1 h2 h3 ?_
              refine lv_astore (lv' := [(5, .ref q9), (0, .ref (G.2.2.2 + 0)), (1, .int a1), (2, .int a2), (3, .int a3), (4, .ref (G.2.2.2 + 311))]) E.1 E.2.1 dL_integrate_27 hl (by decide) rfl (fun ls hl => ?_)
              refine lv_iconst (v := (4 : Int32)) E.1 E.2.1 dL_integrate_29 (by decide) ?_
              exact e_iW E hW hr hlk rfl rfl (by decide) (by decide) dL_integrate_30
            · skip
              simp [wrp, hx0, hx1, hx2, hx3] at h
    · cases hrv
  · rcases r with ex9 | v9
    · cases hrv
    · cases hrv
      refine W.eq (g2 := F0 m 10 ls [.int v9, .int 0, .ref (G.2.2.2 + 311)]) rfl ?_
      obtain ⟨rfl, rfl, rfl⟩ : (0 : Int32) = r0 ∧ σ2 = σ1 ∧ sJ ρ 0 0 (Int32.toInt64 v9) = ρ1 := by simpa [wrp] using h
      refine lv_i2l E.1 E.2.1 dL_integrate_10 rfl ?_
      refine r_last E hW (q := 311) (n := 1) rfl vin01 dL_integrate_11 (fun σ9 H locs eσ9 hW => ?_)
      have eσ9 : σ9 = sJ (jn σ2 τ ρ) 311 0 (Int32.toInt64 v9) := eσ9
      rw [jn_out] at eσ9; subst eσ9
      refine lv_goto (tgt := 31) E.1 E.2.1 dL_integrate_12 (by decide) ?_
      refine lv_iconst (v := (0 : Int32)) E.1 E.2.1 dL_integrate_31 (by decide) ?_
      exact e_iW E hW hr hlk rfl rfl (by decide) (by decide) dL_integrate_32
def f_L_step (a1 : Int32) (a2 : Int32) (σ ρ : St) : Option (Int32 × St × St) := wrp [2, 3] Int32.toInt64 (f_X6_step 0 a1 a2 σ) ρ
set_option maxRecDepth 100000 in
theorem m_L_step {l : Launch} {G : GP} {sz : Nat} {a1 : Int32} {a2 : Int32} {σ τ ρ σ1 ρ1 : St} {r0 : Int32} (hl9 : l.stackTraces = false) (h : f_L_step a1 a2 σ ρ = some (r0, σ1, ρ1)) : Met l yL_step [.codeWith yL_step cL_step 5 (some .int) [(0, 10, 13, 21), (0, 10, 17, 13)]] ({ frames := 8, cells := 6, slots := 36, locals := 167 } : Room) (va_Pc [.ref (G.2.2.2 + 0), .int a1, .int a2, .ref (G.2.2.2 + 311)] (PreL G sz (jn σ τ ρ))) (QO (PoC G skA (jn σ1 τ ρ1)) (Aw G.2.2.2 skA.1 sz) (some (.int r0))) 6 36 (Aw G.2.2.2 skA.1 sz) := by
  obtain ⟨r, σ2, hf⟩ : ∃ r σ2, f_X6_step 0 a1 a2 σ = some (r, σ2) := by
    exact wrp_some h
  unfold f_L_step at h; rw [hf] at h
  refine mkMetW (by decide +kernel) (Nat.le_of_ble_eq_true rfl) ?_
  intro p e s m below meth c ls E hW hl hr hlk hT hN
  have hl : lv_has ls 5 [(0, .ref (G.2.2.2 + 0)), (1, .int a1), (2, .int a2), (3, .ref (G.2.2.2 + 311))] := hl
  generalize Aw G.2.2.2 skA.1 s.heap.size = A0 at E hW ⊢
  generalize ([.ref (G.2.2.2 + 0), .int a1, .int a2, .ref (G.2.2.2 + 311)] : List Value).toArray = args
  refine lv_aload_n E.1 E.2.1 dL_step_0 rfl (lv_at hl 3 rfl) ?_
  refine lv_iconst (v := (0 : Int32)) E.1 E.2.1 dL_step_1 (by decide) ?_
  refine lv_aload_n E.1 E.2.1 dL_step_2 rfl (lv_at hl 0 rfl) ?_
  refine lv_iload_n E.1 E.2.1 dL_step_3 rfl (lv_at hl 1 rfl) ?_
  refine lv_iload_n E.1 E.2.1 dL_step_4 rfl (lv_at hl 2 rfl) ?_
  refine l_CX (As := [.int a1, .int a2]) (rest := [.int 0, .ref (G.2.2.2 + 311)]) E hW (m_X6_step hl9 hf) rfl kw_838 (⟨kw_839, kw_840, kw_1, kw_841⟩ : wV yX6_step cX6_step 8 (some .int)) (⟨⟨by decide +kernel, by decide +kernel⟩, by decide +kernel⟩ : yOK yX6_step 2) ⟨rfl, rfl⟩ ⟨(Nat.le_of_ble_eq_true rfl), (Nat.le_of_ble_eq_true rfl)⟩ (lv_size hl) (Nat.le_of_ble_eq_true rfl) ⟨(Nat.le_of_ble_eq_true rfl), (Nat.le_of_ble_eq_true rfl)⟩ rfl dL_step_5 (fun ex ce q9 H locs hrv hW h1 h2 h3 => ?_) (fun v H locs hrv hW => ?_)
  · rcases r with ex9 | v9
    · cases hrv
      by_cases hx0 : ex = 2
      · subst hx0
        obtain ⟨rfl, rfl, rfl⟩ : (1 : Int32) = r0 ∧ σ2 = σ1 ∧ ρ = ρ1 := by simpa [wrp] using h
        refine w_catch E hN [] [(0, 10, 17, 13)] (0, 10, 13, 21) hT (ex := 2) (by decide) (fun y hy => by cases hy) (by decide) (by decide) kw_636 cst_2 h1 h2 h3 ?_
        refine lv_astore (lv' := [(4, .ref q9), (0, .ref (G.2.2.2 + 0)), (1, .int a1), (2, .int a2), (3, .ref (G.2.2.2 + 311))]) E.1 E.2.1 dL_step_13 hl (by decide) rfl (fun ls hl => ?_)
        refine lv_iconst (v := (1 : Int32)) E.1 E.2.1 dL_step_15 (by decide) ?_
        exact e_iW E hW hr hlk rfl rfl (by decide) (by decide) dL_step_16
      · skip
        by_cases hx1 : ex = 3
        · subst hx1
          obtain ⟨rfl, rfl, rfl⟩ : (2 : Int32) = r0 ∧ σ2 = σ1 ∧ ρ = ρ1 := by simpa [wrp] using h
          refine w_catch E hN [(0, 10, 13, 21)] [] (0, 10, 17, 13) hT (ex := 3) (by decide) (fun y hy => by
            simp only [List.mem_cons, List.not_mem_nil, or_false] at hy
            rcases hy with rfl
            · exact ⟨by decide, 2, by decide, by decide, by decide, kw_636⟩) (by decide) (by decide) kw_275 cst_3 h1 h2 h3 ?_
          refine lv_astore (lv' := [(4, .ref q9), (0, .ref (G.2.2.2 + 0)), (1, .int a1), (2, .int a2), (3, .ref (G.2.2.2 + 311))]) E.1 E.2.1 dL_step_17 hl (by decide) rfl (fun ls hl => ?_)
          refine lv_iconst (v := (2 : Int32)) E.1 E.2.1 dL_step_19 (by decide) ?_
          exact e_iW E hW hr hlk rfl rfl (by decide) (by decide) dL_step_20
        · skip
          simp [wrp, hx0, hx1] at h
    · cases hrv
  · rcases r with ex9 | v9
    · cases hrv
    · cases hrv
      refine W.eq (g2 := F0 m 8 ls [.int v9, .int 0, .ref (G.2.2.2 + 311)]) rfl ?_
      obtain ⟨rfl, rfl, rfl⟩ : (0 : Int32) = r0 ∧ σ2 = σ1 ∧ sJ ρ 0 0 (Int32.toInt64 v9) = ρ1 := by simpa [wrp] using h
      refine lv_i2l E.1 E.2.1 dL_step_8 rfl ?_
      refine r_last E hW (q := 311) (n := 1) rfl vin01 dL_step_9 (fun σ9 H locs eσ9 hW => ?_)
      have eσ9 : σ9 = sJ (jn σ2 τ ρ) 311 0 (Int32.toInt64 v9) := eσ9
      rw [jn_out] at eσ9; subst eσ9
      refine lv_goto (tgt := 21) E.1 E.2.1 dL_step_10 (by decide) ?_
      refine lv_iconst (v := (0 : Int32)) E.1 E.2.1 dL_step_21 (by decide) ?_
      exact e_iW E hW hr hlk rfl rfl (by decide) (by decide) dL_step_22
def f_L_sweep (a1 : Int32) (a2 : Int32) (σ ρ : St) : Option (Int32 × St × St) := wrp [1, 2, 3, 4] Int32.toInt64 (f_X6_sweep 0 a1 a2 σ) ρ
set_option maxRecDepth 100000 in
theorem m_L_sweep {l : Launch} {G : GP} {sz : Nat} {a1 : Int32} {a2 : Int32} {σ τ ρ σ1 ρ1 : St} {r0 : Int32} (hl9 : l.stackTraces = false) (h : f_L_sweep a1 a2 σ ρ = some (r0, σ1, ρ1)) : Met l yL_sweep [.codeWith yL_sweep cL_sweep 5 (some .int) [(0, 10, 13, 19), (0, 10, 17, 21), (0, 10, 21, 13), (0, 10, 25, 47)]] ({ frames := 8, cells := 4, slots := 24, locals := 169 } : Room) (va_Pc [.ref (G.2.2.2 + 0), .int a1, .int a2, .ref (G.2.2.2 + 311)] (PreL G sz (jn σ τ ρ))) (QO (PoC G skA (jn σ1 τ ρ1)) (Aw G.2.2.2 skA.1 sz) (some (.int r0))) 4 24 (Aw G.2.2.2 skA.1 sz) := by
  obtain ⟨r, σ2, hf⟩ : ∃ r σ2, f_X6_sweep 0 a1 a2 σ = some (r, σ2) := by
    exact wrp_some h
  unfold f_L_sweep at h; rw [hf] at h
  refine mkMetW (by decide +kernel) (Nat.le_of_ble_eq_true rfl) ?_
  intro p e s m below meth c ls E hW hl hr hlk hT hN
  have hl : lv_has ls 5 [(0, .ref (G.2.2.2 + 0)), (1, .int a1), (2, .int a2), (3, .ref (G.2.2.2 + 311))] := hl
  generalize Aw G.2.2.2 skA.1 s.heap.size = A0 at E hW ⊢
  generalize ([.ref (G.2.2.2 + 0), .int a1, .int a2, .ref (G.2.2.2 + 311)] : List Value).toArray = args
  refine lv_aload_n E.1 E.2.1 dL_sweep_0 rfl (lv_at hl 3 rfl) ?_
  refine lv_iconst (v := (0 : Int32)) E.1 E.2.1 dL_sweep_1 (by decide) ?_
  refine lv_aload_n E.1 E.2.1 dL_sweep_2 rfl (lv_at hl 0 rfl) ?_
  refine lv_iload_n E.1 E.2.1 dL_sweep_3 rfl (lv_at hl 1 rfl) ?_
  refine lv_iload_n E.1 E.2.1 dL_sweep_4 rfl (lv_at hl 2 rfl) ?_
  refine l_CX (As := [.int a1, .int a2]) (rest := [.int 0, .ref (G.2.2.2 + 311)]) E hW (m_X6_sweep hl9 hf) rfl kw_851 (⟨kw_852, kw_853, kw_1, kw_854⟩ : wV yX6_sweep cX6_sweep 4 (some .int)) (⟨⟨by decide +kernel, by decide +kernel⟩, by decide +kernel⟩ : yOK yX6_sweep 2) ⟨rfl, rfl⟩ ⟨(Nat.le_of_ble_eq_true rfl), (Nat.le_of_ble_eq_true rfl)⟩ (lv_size hl) (Nat.le_of_ble_eq_true rfl) ⟨(Nat.le_of_ble_eq_true rfl), (Nat.le_of_ble_eq_true rfl)⟩ rfl dL_sweep_5 (fun ex ce q9 H locs hrv hW h1 h2 h3 => ?_) (fun v H locs hrv hW => ?_)
  · rcases r with ex9 | v9
    · cases hrv
      by_cases hx0 : ex = 1
      · subst hx0
        obtain ⟨rfl, rfl, rfl⟩ : (1 : Int32) = r0 ∧ σ2 = σ1 ∧ ρ = ρ1 := by simpa [wrp] using h
        refine w_catch E hN [] [(0, 10, 17, 21), (0, 10, 21, 13), (0, 10, 25, 47)] (0, 10, 13, 19) hT (ex := 1) (by decide) (fun y hy => by cases hy) (by decide) (by decide) kw_635 cst_1 h1 h2 h3 ?_
        refine lv_astore (lv' := [(4, .ref q9), (0, .ref (G.2.2.2 + 0)), (1, .int a1), (2, .int a2), (3, .ref (G.2.2.2 + 311))]) E.1 E.2.1 dL_sweep_13 hl (by decide) rfl (fun ls hl => ?_)
        refine lv_iconst (v := (1 : Int32)) E.1 E.2.1 dL_sweep_15 (by decide) ?_
        exact e_iW E hW hr hlk rfl rfl (by decide) (by decide) dL_sweep_16
      · skip
        by_cases hx1 : ex = 2
        · subst hx1
          obtain ⟨rfl, rfl, rfl⟩ : (2 : Int32) = r0 ∧ σ2 = σ1 ∧ ρ = ρ1 := by simpa [wrp] using h
          refine w_catch E hN [(0, 10, 13, 19)] [(0, 10, 21, 13), (0, 10, 25, 47)] (0, 10, 17, 21) hT (ex := 2) (by decide) (fun y hy => by
            simp only [List.mem_cons, List.not_mem_nil, or_false] at hy
            rcases hy with rfl
            · exact ⟨by decide, 1, by decide, by decide, by decide, kw_635⟩) (by decide) (by decide) kw_636 cst_2 h1 h2 h3 ?_
          refine lv_astore (lv' := [(4, .ref q9), (0, .ref (G.2.2.2 + 0)), (1, .int a1), (2, .int a2), (3, .ref (G.2.2.2 + 311))]) E.1 E.2.1 dL_sweep_17 hl (by decide) rfl (fun ls hl => ?_)
          refine lv_iconst (v := (2 : Int32)) E.1 E.2.1 dL_sweep_19 (by decide) ?_
          exact e_iW E hW hr hlk rfl rfl (by decide) (by decide) dL_sweep_20
        · skip
          by_cases hx2 : ex = 3
          · subst hx2
            obtain ⟨rfl, rfl, rfl⟩ : (3 : Int32) = r0 ∧ σ2 = σ1 ∧ ρ = ρ1 := by simpa [wrp] using h
            refine w_catch E hN [(0, 10, 13, 19), (0, 10, 17, 21)] [(0, 10, 25, 47)] (0, 10, 21, 13) hT (ex := 3) (by decide) (fun y hy => by
              simp only [List.mem_cons, List.not_mem_nil, or_false] at hy
              rcases hy with rfl | rfl
              · exact ⟨by decide, 1, by decide, by decide, by decide, kw_635⟩
              · exact ⟨by decide, 2, by decide, by decide, by decide, kw_636⟩) (by decide) (by decide) kw_275 cst_3 h1 h2 h3 ?_
            refine lv_astore (lv' := [(4, .ref q9), (0, .ref (G.2.2.2 + 0)), (1, .int a1), (2, .int a2), (3, .ref (G.2.2.2 + 311))]) E.1 E.2.1 dL_sweep_21 hl (by decide) rfl (fun ls hl => ?_)
            refine lv_iconst (v := (3 : Int32)) E.1 E.2.1 dL_sweep_23 (by decide) ?_
            exact e_iW E hW hr hlk rfl rfl (by decide) (by decide) dL_sweep_24
          · skip
            by_cases hx3 : ex = 4
            · subst hx3
              obtain ⟨rfl, rfl, rfl⟩ : (4 : Int32) = r0 ∧ σ2 = σ1 ∧ ρ = ρ1 := by simpa [wrp] using h
              refine w_catch E hN [(0, 10, 13, 19), (0, 10, 17, 21), (0, 10, 21, 13)] [] (0, 10, 25, 47) hT (ex := 4) (by decide) (fun y hy => by
                simp only [List.mem_cons, List.not_mem_nil, or_false] at hy
                rcases hy with rfl | rfl | rfl
                · exact ⟨by decide, 1, by decide, by decide, by decide, kw_635⟩
                · exact ⟨by decide, 2, by decide, by decide, by decide, kw_636⟩
                · exact ⟨by decide, 3, by decide, by decide, by decide, kw_275⟩) (by decide) (by decide) kw_773 cst_4 h1 h2 h3 ?_
              refine lv_astore (lv' := [(4, .ref q9), (0, .ref (G.2.2.2 + 0)), (1, .int a1), (2, .int a2), (3, .ref (G.2.2.2 + 311))]) E.1 E.2.1 dL_sweep_25 hl (by decide) rfl (fun ls hl => ?_)
              refine lv_iconst (v := (4 : Int32)) E.1 E.2.1 dL_sweep_27 (by decide) ?_
              exact e_iW E hW hr hlk rfl rfl (by decide) (by decide) dL_sweep_28
            · skip
              simp [wrp, hx0, hx1, hx2, hx3] at h
    · cases hrv
  · rcases r with ex9 | v9
    · cases hrv
    · cases hrv
      refine W.eq (g2 := F0 m 8 ls [.int v9, .int 0, .ref (G.2.2.2 + 311)]) rfl ?_
      obtain ⟨rfl, rfl, rfl⟩ : (0 : Int32) = r0 ∧ σ2 = σ1 ∧ sJ ρ 0 0 (Int32.toInt64 v9) = ρ1 := by simpa [wrp] using h
      refine lv_i2l E.1 E.2.1 dL_sweep_8 rfl ?_
      refine r_last E hW (q := 311) (n := 1) rfl vin01 dL_sweep_9 (fun σ9 H locs eσ9 hW => ?_)
      have eσ9 : σ9 = sJ (jn σ2 τ ρ) 311 0 (Int32.toInt64 v9) := eσ9
      rw [jn_out] at eσ9; subst eσ9
      refine lv_goto (tgt := 29) E.1 E.2.1 dL_sweep_10 (by decide) ?_
      refine lv_iconst (v := (0 : Int32)) E.1 E.2.1 dL_sweep_29 (by decide) ?_
      exact e_iW E hW hr hlk rfl rfl (by decide) (by decide) dL_sweep_30
def f_L_wrap (a1 : Int32) (a2 : Int32) (σ ρ : St) : Option (Int32 × St × St) := wrp [1, 2, 3, 4] Int32.toInt64 (f_X6_wrap 0 a1 a2 σ) ρ
set_option maxRecDepth 100000 in
theorem m_L_wrap {l : Launch} {G : GP} {sz : Nat} {a1 : Int32} {a2 : Int32} {σ τ ρ σ1 ρ1 : St} {r0 : Int32} (hl9 : l.stackTraces = false) (h : f_L_wrap a1 a2 σ ρ = some (r0, σ1, ρ1)) : Met l yL_wrap [.codeWith yL_wrap cL_wrap 5 (some .int) [(0, 10, 13, 19), (0, 10, 17, 21), (0, 10, 21, 13), (0, 10, 25, 47)]] ({ frames := 8, cells := 4, slots := 24, locals := 173 } : Room) (va_Pc [.ref (G.2.2.2 + 0), .int a1, .int a2, .ref (G.2.2.2 + 311)] (PreL G sz (jn σ τ ρ))) (QO (PoC G skA (jn σ1 τ ρ1)) (Aw G.2.2.2 skA.1 sz) (some (.int r0))) 4 24 (Aw G.2.2.2 skA.1 sz) := by
  obtain ⟨r, σ2, hf⟩ : ∃ r σ2, f_X6_wrap 0 a1 a2 σ = some (r, σ2) := by
    exact wrp_some h
  unfold f_L_wrap at h; rw [hf] at h
  refine mkMetW (by decide +kernel) (Nat.le_of_ble_eq_true rfl) ?_
  intro p e s m below meth c ls E hW hl hr hlk hT hN
  have hl : lv_has ls 5 [(0, .ref (G.2.2.2 + 0)), (1, .int a1), (2, .int a2), (3, .ref (G.2.2.2 + 311))] := hl
  generalize Aw G.2.2.2 skA.1 s.heap.size = A0 at E hW ⊢
  generalize ([.ref (G.2.2.2 + 0), .int a1, .int a2, .ref (G.2.2.2 + 311)] : List Value).toArray = args
  refine lv_aload_n E.1 E.2.1 dL_wrap_0 rfl (lv_at hl 3 rfl) ?_
  refine lv_iconst (v := (0 : Int32)) E.1 E.2.1 dL_wrap_1 (by decide) ?_
  refine lv_aload_n E.1 E.2.1 dL_wrap_2 rfl (lv_at hl 0 rfl) ?_
  refine lv_iload_n E.1 E.2.1 dL_wrap_3 rfl (lv_at hl 1 rfl) ?_
  refine lv_iload_n E.1 E.2.1 dL_wrap_4 rfl (lv_at hl 2 rfl) ?_
  refine l_CX (As := [.int a1, .int a2]) (rest := [.int 0, .ref (G.2.2.2 + 311)]) E hW (m_X6_wrap hl9 hf) rfl kw_866 (⟨kw_867, kw_868, kw_1, kw_869⟩ : wV yX6_wrap cX6_wrap 8 (some .int)) (⟨⟨by decide +kernel, by decide +kernel⟩, by decide +kernel⟩ : yOK yX6_wrap 2) ⟨rfl, rfl⟩ ⟨(Nat.le_of_ble_eq_true rfl), (Nat.le_of_ble_eq_true rfl)⟩ (lv_size hl) (Nat.le_of_ble_eq_true rfl) ⟨(Nat.le_of_ble_eq_true rfl), (Nat.le_of_ble_eq_true rfl)⟩ rfl dL_wrap_5 (fun ex ce q9 H locs hrv hW h1 h2 h3 => ?_) (fun v H locs hrv hW => ?_)
  · rcases r with ex9 | v9
    · cases hrv
      by_cases hx0 : ex = 1
      · subst hx0
        obtain ⟨rfl, rfl, rfl⟩ : (1 : Int32) = r0 ∧ σ2 = σ1 ∧ ρ = ρ1 := by simpa [wrp] using h
        refine w_catch E hN [] [(0, 10, 17, 21), (0, 10, 21, 13), (0, 10, 25, 47)] (0, 10, 13, 19) hT (ex := 1) (by decide) (fun y hy => by cases hy) (by decide) (by decide) kw_635 cst_1 h1 h2 h3 ?_
        refine lv_astore (lv' := [(4, .ref q9), (0, .ref (G.2.2.2 + 0)), (1, .int a1), (2, .int a2), (3, .ref (G.2.2.2 + 311))]) E.1 E.2.1 dL_wrap_13 hl (by decide) rfl (fun ls hl => ?_)
        refine lv_iconst (v := (1 : Int32)) E.1 E.2.1 dL_wrap_15 (by decide) ?_
        exact e_iW E hW hr hlk rfl rfl (by decide) (by decide) dL_wrap_16
      · skip
        by_cases hx1 : ex = 2
        · subst hx1
          obtain ⟨rfl, rfl, rfl⟩ : (2 : Int32) = r0 ∧ σ2 = σ1 ∧ ρ = ρ1 := by simpa [wrp] using h
          refine w_catch E hN [(0, 10, 13, 19)] [(0, 10, 21, 13), (0, 10, 25, 47)] (0, 10, 17, 21) hT (ex := 2) (by decide) (fun y hy => by
            simp only [List.mem_cons, List.not_mem_nil, or_false] at hy
            rcases hy with rfl
            · exact ⟨by decide, 1, by decide, by decide, by decide, kw_635⟩) (by decide) (by decide) kw_636 cst_2 h1 h2 h3 ?_
          refine lv_astore (lv' := [(4, .ref q9), (0, .ref (G.2.2.2 + 0)), (1, .int a1), (2, .int a2), (3, .ref (G.2.2.2 + 311))]) E.1 E.2.1 dL_wrap_17 hl (by decide) rfl (fun ls hl => ?_)
          refine lv_iconst (v := (2 : Int32)) E.1 E.2.1 dL_wrap_19 (by decide) ?_
          exact e_iW E hW hr hlk rfl rfl (by decide) (by decide) dL_wrap_20
        · skip
          by_cases hx2 : ex = 3
          · subst hx2
            obtain ⟨rfl, rfl, rfl⟩ : (3 : Int32) = r0 ∧ σ2 = σ1 ∧ ρ = ρ1 := by simpa [wrp] using h
            refine w_catch E hN [(0, 10, 13, 19), (0, 10, 17, 21)] [(0, 10, 25, 47)] (0, 10, 21, 13) hT (ex := 3) (by decide) (fun y hy => by
              simp only [List.mem_cons, List.not_mem_nil, or_false] at hy
              rcases hy with rfl | rfl
              · exact ⟨by decide, 1, by decide, by decide, by decide, kw_635⟩
              · exact ⟨by decide, 2, by decide, by decide, by decide, kw_636⟩) (by decide) (by decide) kw_275 cst_3 h1 h2 h3 ?_
            refine lv_astore (lv' := [(4, .ref q9), (0, .ref (G.2.2.2 + 0)), (1, .int a1), (2, .int a2), (3, .ref (G.2.2.2 + 311))]) E.1 E.2.1 dL_wrap_21 hl (by decide) rfl (fun ls hl => ?_)
            refine lv_iconst (v := (3 : Int32)) E.1 E.2.1 dL_wrap_23 (by decide) ?_
            exact e_iW E hW hr hlk rfl rfl (by decide) (by decide) dL_wrap_24
          · skip
            by_cases hx3 : ex = 4
            · subst hx3
              obtain ⟨rfl, rfl, rfl⟩ : (4 : Int32) = r0 ∧ σ2 = σ1 ∧ ρ = ρ1 := by simpa [wrp] using h
              refine w_catch E hN [(0, 10, 13, 19), (0, 10, 17, 21), (0, 10, 21, 13)] [] (0, 10, 25, 47) hT (ex := 4) (by decide) (fun y hy => by
                simp only [List.mem_cons, List.not_mem_nil, or_false] at hy
                rcases hy with rfl | rfl | rfl
                · exact ⟨by decide, 1, by decide, by decide, by decide, kw_635⟩
                · exact ⟨by decide, 2, by decide, by decide, by decide, kw_636⟩
                · exact ⟨by decide, 3, by decide, by decide, by decide, kw_275⟩) (by decide) (by decide) kw_773 cst_4 h1 h2 h3 ?_
              refine lv_astore (lv' := [(4, .ref q9), (0, .ref (G.2.2.2 + 0)), (1, .int a1), (2, .int a2), (3, .ref (G.2.2.2 + 311))]) E.1 E.2.1 dL_wrap_25 hl (by decide) rfl (fun ls hl => ?_)
              refine lv_iconst (v := (4 : Int32)) E.1 E.2.1 dL_wrap_27 (by decide) ?_
              exact e_iW E hW hr hlk rfl rfl (by decide) (by decide) dL_wrap_28
            · skip
              simp [wrp, hx0, hx1, hx2, hx3] at h
    · cases hrv
  · rcases r with ex9 | v9
    · cases hrv
    · cases hrv
      refine W.eq (g2 := F0 m 8 ls [.int v9, .int 0, .ref (G.2.2.2 + 311)]) rfl ?_
      obtain ⟨rfl, rfl, rfl⟩ : (0 : Int32) = r0 ∧ σ2 = σ1 ∧ sJ ρ 0 0 (Int32.toInt64 v9) = ρ1 := by simpa [wrp] using h
      refine lv_i2l E.1 E.2.1 dL_wrap_8 rfl ?_
      refine r_last E hW (q := 311) (n := 1) rfl vin01 dL_wrap_9 (fun σ9 H locs eσ9 hW => ?_)
      have eσ9 : σ9 = sJ (jn σ2 τ ρ) 311 0 (Int32.toInt64 v9) := eσ9
      rw [jn_out] at eσ9; subst eσ9
      refine lv_goto (tgt := 29) E.1 E.2.1 dL_wrap_10 (by decide) ?_
      refine lv_iconst (v := (0 : Int32)) E.1 E.2.1 dL_wrap_29 (by decide) ?_
      exact e_iW E hW hr hlk rfl rfl (by decide) (by decide) dL_wrap_30
def f_L_setCoefficient (a1 : Int32) (a2 : Int32) (a3 : Int32) (a4 : Int32) (σ ρ : St) : Option (Int32 × St × St) := wrp [1, 2, 3] Int32.toInt64 (f_X6_setCoefficient 0 a1 a2 a3 a4 σ) ρ
set_option maxRecDepth 100000 in
theorem m_L_setCoefficient {l : Launch} {G : GP} {sz : Nat} {a1 : Int32} {a2 : Int32} {a3 : Int32} {a4 : Int32} {σ τ ρ σ1 ρ1 : St} {r0 : Int32} (hl9 : l.stackTraces = false) (h : f_L_setCoefficient a1 a2 a3 a4 σ ρ = some (r0, σ1, ρ1)) : Met l yL_setCoefficient [.codeWith yL_setCoefficient cL_setCoefficient 7 (some .int) [(0, 14, 17, 19), (0, 14, 21, 21), (0, 14, 25, 13)]] ({ frames := 8, cells := 4, slots := 24, locals := 152 } : Room) (va_Pc [.ref (G.2.2.2 + 0), .int a1, .int a2, .int a3, .int a4, .ref (G.2.2.2 + 311)] (PreL G sz (jn σ τ ρ))) (QO (PoC G skA (jn σ1 τ ρ1)) (Aw G.2.2.2 skA.1 sz) (some (.int r0))) 4 24 (Aw G.2.2.2 skA.1 sz) := by
  obtain ⟨r, σ2, hf⟩ : ∃ r σ2, f_X6_setCoefficient 0 a1 a2 a3 a4 σ = some (r, σ2) := by
    exact wrp_some h
  unfold f_L_setCoefficient at h; rw [hf] at h
  refine mkMetW (by decide +kernel) (Nat.le_of_ble_eq_true rfl) ?_
  intro p e s m below meth c ls E hW hl hr hlk hT hN
  have hl : lv_has ls 7 [(0, .ref (G.2.2.2 + 0)), (1, .int a1), (2, .int a2), (3, .int a3), (4, .int a4), (5, .ref (G.2.2.2 + 311))] := hl
  generalize Aw G.2.2.2 skA.1 s.heap.size = A0 at E hW ⊢
  generalize ([.ref (G.2.2.2 + 0), .int a1, .int a2, .int a3, .int a4, .ref (G.2.2.2 + 311)] : List Value).toArray = args
  refine lv_aload E.1 E.2.1 dL_setCoefficient_0 (lv_at hl 5 rfl) ?_
  refine lv_iconst (v := (0 : Int32)) E.1 E.2.1 dL_setCoefficient_2 (by decide) ?_
  refine lv_aload_n E.1 E.2.1 dL_setCoefficient_3 rfl (lv_at hl 0 rfl) ?_
  refine lv_iload_n E.1 E.2.1 dL_setCoefficient_4 rfl (lv_at hl 1 rfl) ?_
  refine lv_iload_n E.1 E.2.1 dL_setCoefficient_5 rfl (lv_at hl 2 rfl) ?_
  refine lv_iload_n E.1 E.2.1 dL_setCoefficient_6 rfl (lv_at hl 3 rfl) ?_
  refine lv_iload E.1 E.2.1 dL_setCoefficient_7 (lv_at hl 4 rfl) ?_
  refine l_CX (As := [.int a1, .int a2, .int a3, .int a4]) (rest := [.int 0, .ref (G.2.2.2 + 311)]) E hW (m_X6_setCoefficient hl9 hf) rfl kw_876 (⟨kw_877, kw_878, kw_1, kw_879⟩ : wV yX6_setCoefficient cX6_setCoefficient 8 (some .int)) (⟨⟨by decide +kernel, by decide +kernel⟩, by decide +kernel⟩ : yOK yX6_setCoefficient 4) ⟨rfl, rfl⟩ ⟨(Nat.le_of_ble_eq_true rfl), (Nat.le_of_ble_eq_true rfl)⟩ (lv_size hl) (Nat.le_of_ble_eq_true rfl) ⟨(Nat.le_of_ble_eq_true rfl), (Nat.le_of_ble_eq_true rfl)⟩ rfl dL_setCoefficient_9 (fun ex ce q9 H locs hrv hW h1 h2 h3 => ?_) (fun v H locs hrv hW => ?_)
  · rcases r with ex9 | v9
    · cases hrv
      by_cases hx0 : ex = 1
      · subst hx0
        obtain ⟨rfl, rfl, rfl⟩ : (1 : Int32) = r0 ∧ σ2 = σ1 ∧ ρ = ρ1 := by simpa [wrp] using h
        refine w_catch E hN [] [(0, 14, 21, 21), (0, 14, 25, 13)] (0, 14, 17, 19) hT (ex := 1) (by decide) (fun y hy => by cases hy) (by decide) (by decide) kw_635 cst_1 h1 h2 h3 ?_
        refine lv_astore (lv' := [(6, .ref q9), (0, .ref (G.2.2.2 + 0)), (1, .int a1), (2, .int a2), (3, .int a3), (4, .int a4), (5, .ref (G.2.2.2 + 311))]) E.1 E.2.1 dL_setCoefficient_17 hl (by decide) rfl (fun ls hl => ?_)
        refine lv_iconst (v := (1 : Int32)) E.1 E.2.1 dL_setCoefficient_19 (by decide) ?_
        exact e_iW E hW hr hlk rfl rfl (by decide) (by decide) dL_setCoefficient_20
      · skip
        by_cases hx1 : ex = 2
        · subst hx1
          obtain ⟨rfl, rfl, rfl⟩ : (2 : Int32) = r0 ∧ σ2 = σ1 ∧ ρ = ρ1 := by simpa [wrp] using h
          refine w_catch E hN [(0, 14, 17, 19)] [(0, 14, 25, 13)] (0, 14, 21, 21) hT (ex := 2) (by decide) (fun y hy => by
            simp only [List.mem_cons, List.not_mem_nil, or_false] at hy
            rcases hy with rfl
            · exact ⟨by decide, 1, by decide, by decide, by decide, kw_635⟩) (by decide) (by decide) kw_636 cst_2 h1 h2 h3 ?_
          refine lv_astore (lv' := [(6, .ref q9), (0, .ref (G.2.2.2 + 0)), (1, .int a1), (2, .int a2), (3, .int a3), (4, .int a4), (5, .ref (G.2.2.2 + 311))]) E.1 E.2.1 dL_setCoefficient_21 hl (by decide) rfl (fun ls hl => ?_)
          refine lv_iconst (v := (2 : Int32)) E.1 E.2.1 dL_setCoefficient_23 (by decide) ?_
          exact e_iW E hW hr hlk rfl rfl (by decide) (by decide) dL_setCoefficient_24
        · skip
          by_cases hx2 : ex = 3
          · subst hx2
            obtain ⟨rfl, rfl, rfl⟩ : (3 : Int32) = r0 ∧ σ2 = σ1 ∧ ρ = ρ1 := by simpa [wrp] using h
            refine w_catch E hN [(0, 14, 17, 19), (0, 14, 21, 21)] [] (0, 14, 25, 13) hT (ex := 3) (by decide) (fun y hy => by
              simp only [List.mem_cons, List.not_mem_nil, or_false] at hy
              rcases hy with rfl | rfl
              · exact ⟨by decide, 1, by decide, by decide, by decide, kw_635⟩
              · exact ⟨by decide, 2, by decide, by decide, by decide, kw_636⟩) (by decide) (by decide) kw_275 cst_3 h1 h2 h3 ?_
            refine lv_astore (lv' := [(6, .ref q9), (0, .ref (G.2.2.2 + 0)), (1, .int a1), (2, .int a2), (3, .int a3), (4, .int a4), (5, .ref (G.2.2.2 + 311))]) E.1 E.2.1 dL_setCoefficient_25 hl (by decide) rfl (fun ls hl => ?_)
            refine lv_iconst (v := (3 : Int32)) E.1 E.2.1 dL_setCoefficient_27 (by decide) ?_
            exact e_iW E hW hr hlk rfl rfl (by decide) (by decide) dL_setCoefficient_28
          · skip
            simp [wrp, hx0, hx1, hx2] at h
    · cases hrv
  · rcases r with ex9 | v9
    · cases hrv
    · cases hrv
      refine W.eq (g2 := F0 m 12 ls [.int v9, .int 0, .ref (G.2.2.2 + 311)]) rfl ?_
      obtain ⟨rfl, rfl, rfl⟩ : (0 : Int32) = r0 ∧ σ2 = σ1 ∧ sJ ρ 0 0 (Int32.toInt64 v9) = ρ1 := by simpa [wrp] using h
      refine lv_i2l E.1 E.2.1 dL_setCoefficient_12 rfl ?_
      refine r_last E hW (q := 311) (n := 1) rfl vin01 dL_setCoefficient_13 (fun σ9 H locs eσ9 hW => ?_)
      have eσ9 : σ9 = sJ (jn σ2 τ ρ) 311 0 (Int32.toInt64 v9) := eσ9
      rw [jn_out] at eσ9; subst eσ9
      refine lv_goto (tgt := 29) E.1 E.2.1 dL_setCoefficient_14 (by decide) ?_
      refine lv_iconst (v := (0 : Int32)) E.1 E.2.1 dL_setCoefficient_29 (by decide) ?_
      exact e_iW E hW hr hlk rfl rfl (by decide) (by decide) dL_setCoefficient_30
def f_L_setRemainder (a1 : Int32) (a2 : Int32) (a3 : Int32) (σ ρ : St) : Option (Int32 × St × St) := wrp [1, 2, 3] Int32.toInt64 (f_X6_setRemainder 0 a1 a2 a3 σ) ρ
set_option maxRecDepth 100000 in
theorem m_L_setRemainder {l : Launch} {G : GP} {sz : Nat} {a1 : Int32} {a2 : Int32} {a3 : Int32} {σ τ ρ σ1 ρ1 : St} {r0 : Int32} (hl9 : l.stackTraces = false) (h : f_L_setRemainder a1 a2 a3 σ ρ = some (r0, σ1, ρ1)) : Met l yL_setRemainder [.codeWith yL_setRemainder cL_setRemainder 6 (some .int) [(0, 12, 15, 19), (0, 12, 19, 21), (0, 12, 23, 13)]] ({ frames := 8, cells := 4, slots := 24, locals := 150 } : Room) (va_Pc [.ref (G.2.2.2 + 0), .int a1, .int a2, .int a3, .ref (G.2.2.2 + 311)] (PreL G sz (jn σ τ ρ))) (QO (PoC G skA (jn σ1 τ ρ1)) (Aw G.2.2.2 skA.1 sz) (some (.int r0))) 4 24 (Aw G.2.2.2 skA.1 sz) := by
  obtain ⟨r, σ2, hf⟩ : ∃ r σ2, f_X6_setRemainder 0 a1 a2 a3 σ = some (r, σ2) := by
    exact wrp_some h
  unfold f_L_setRemainder at h; rw [hf] at h
  refine mkMetW (by decide +kernel) (Nat.le_of_ble_eq_true rfl) ?_
  intro p e s m below meth c ls E hW hl hr hlk hT hN
  have hl : lv_has ls 6 [(0, .ref (G.2.2.2 + 0)), (1, .int a1), (2, .int a2), (3, .int a3), (4, .ref (G.2.2.2 + 311))] := hl
  generalize Aw G.2.2.2 skA.1 s.heap.size = A0 at E hW ⊢
  generalize ([.ref (G.2.2.2 + 0), .int a1, .int a2, .int a3, .ref (G.2.2.2 + 311)] : List Value).toArray = args
  refine lv_aload E.1 E.2.1 dL_setRemainder_0 (lv_at hl 4 rfl) ?_
  refine lv_iconst (v := (0 : Int32)) E.1 E.2.1 dL_setRemainder_2 (by decide) ?_
  refine lv_aload_n E.1 E.2.1 dL_setRemainder_3 rfl (lv_at hl 0 rfl) ?_
  refine lv_iload_n E.1 E.2.1 dL_setRemainder_4 rfl (lv_at hl 1 rfl) ?_
  refine lv_iload_n E.1 E.2.1 dL_setRemainder_5 rfl (lv_at hl 2 rfl) ?_
  refine lv_iload_n E.1 E.2.1 dL_setRemainder_6 rfl (lv_at hl 3 rfl) ?_
  refine l_CX (As := [.int a1, .int a2, .int a3]) (rest := [.int 0, .ref (G.2.2.2 + 311)]) E hW (m_X6_setRemainder hl9 hf) rfl kw_884 (⟨kw_885, kw_886, kw_1, kw_887⟩ : wV yX6_setRemainder cX6_setRemainder 6 (some .int)) (⟨⟨by decide +kernel, by decide +kernel⟩, by decide +kernel⟩ : yOK yX6_setRemainder 3) ⟨rfl, rfl⟩ ⟨(Nat.le_of_ble_eq_true rfl), (Nat.le_of_ble_eq_true rfl)⟩ (lv_size hl) (Nat.le_of_ble_eq_true rfl) ⟨(Nat.le_of_ble_eq_true rfl), (Nat.le_of_ble_eq_true rfl)⟩ rfl dL_setRemainder_7 (fun ex ce q9 H locs hrv hW h1 h2 h3 => ?_) (fun v H locs hrv hW => ?_)
  · rcases r with ex9 | v9
    · cases hrv
      by_cases hx0 : ex = 1
      · subst hx0
        obtain ⟨rfl, rfl, rfl⟩ : (1 : Int32) = r0 ∧ σ2 = σ1 ∧ ρ = ρ1 := by simpa [wrp] using h
        refine w_catch E hN [] [(0, 12, 19, 21), (0, 12, 23, 13)] (0, 12, 15, 19) hT (ex := 1) (by decide) (fun y hy => by cases hy) (by decide) (by decide) kw_635 cst_1 h1 h2 h3 ?_
        refine lv_astore (lv' := [(5, .ref q9), (0, .ref (G.2.2.2 + 0)), (1, .int a1), (2, .int a2), (3, .int a3), (4, .ref (G.2.2.2 + 311))]) E.1 E.2.1 dL_setRemainder_15 hl (by decide) rfl (fun ls hl => ?_)
        refine lv_iconst (v := (1 : Int32)) E.1 E.2.1 dL_setRemainder_17 (by decide) ?_
        exact e_iW E hW hr hlk rfl rfl (by decide) (by decide) dL_setRemainder_18
      · skip
        by_cases hx1 : ex = 2
        · subst hx1
          obtain ⟨rfl, rfl, rfl⟩ : (2 : Int32) = r0 ∧ σ2 = σ1 ∧ ρ = ρ1 := by simpa [wrp] using h
          refine w_catch E hN [(0, 12, 15, 19)] [(0, 12, 23, 13)] (0, 12, 19, 21) hT (ex := 2) (by decide) (fun y hy => by
            simp only [List.mem_cons, List.not_mem_nil, or_false] at hy
            rcases hy with rfl
            · exact ⟨by decide, 1, by decide, by decide, by decide, kw_635⟩) (by decide) (by decide) kw_636 cst_2 h1 h2 h3 ?_
          refine lv_astore (lv' := [(5, .ref q9), (0, .ref (G.2.2.2 + 0)), (1, .int a1), (2, .int a2), (3, .int a3), (4, .ref (G.2.2.2 + 311))]) E.1 E.2.1 dL_setRemainder_19 hl (by decide) rfl (fun ls hl => ?_)
          refine lv_iconst (v := (2 : Int32)) E.1 E.2.1 dL_setRemainder_21 (by decide) ?_
          exact e_iW E hW hr hlk rfl rfl (by decide) (by decide) dL_setRemainder_22
        · skip
          by_cases hx2 : ex = 3
          · subst hx2
            obtain ⟨rfl, rfl, rfl⟩ : (3 : Int32) = r0 ∧ σ2 = σ1 ∧ ρ = ρ1 := by simpa [wrp] using h
            refine w_catch E hN [(0, 12, 15, 19), (0, 12, 19, 21)] [] (0, 12, 23, 13) hT (ex := 3) (by decide) (fun y hy => by
              simp only [List.mem_cons, List.not_mem_nil, or_false] at hy
              rcases hy with rfl | rfl
              · exact ⟨by decide, 1, by decide, by decide, by decide, kw_635⟩
              · exact ⟨by decide, 2, by decide, by decide, by decide, kw_636⟩) (by decide) (by decide) kw_275 cst_3 h1 h2 h3 ?_
            refine lv_astore (lv' := [(5, .ref q9), (0, .ref (G.2.2.2 + 0)), (1, .int a1), (2, .int a2), (3, .int a3), (4, .ref (G.2.2.2 + 311))]) E.1 E.2.1 dL_setRemainder_23 hl (by decide) rfl (fun ls hl => ?_)
            refine lv_iconst (v := (3 : Int32)) E.1 E.2.1 dL_setRemainder_25 (by decide) ?_
            exact e_iW E hW hr hlk rfl rfl (by decide) (by decide) dL_setRemainder_26
          · skip
            simp [wrp, hx0, hx1, hx2] at h
    · cases hrv
  · rcases r with ex9 | v9
    · cases hrv
    · cases hrv
      refine W.eq (g2 := F0 m 10 ls [.int v9, .int 0, .ref (G.2.2.2 + 311)]) rfl ?_
      obtain ⟨rfl, rfl, rfl⟩ : (0 : Int32) = r0 ∧ σ2 = σ1 ∧ sJ ρ 0 0 (Int32.toInt64 v9) = ρ1 := by simpa [wrp] using h
      refine lv_i2l E.1 E.2.1 dL_setRemainder_10 rfl ?_
      refine r_last E hW (q := 311) (n := 1) rfl vin01 dL_setRemainder_11 (fun σ9 H locs eσ9 hW => ?_)
      have eσ9 : σ9 = sJ (jn σ2 τ ρ) 311 0 (Int32.toInt64 v9) := eσ9
      rw [jn_out] at eσ9; subst eσ9
      refine lv_goto (tgt := 27) E.1 E.2.1 dL_setRemainder_12 (by decide) ?_
      refine lv_iconst (v := (0 : Int32)) E.1 E.2.1 dL_setRemainder_27 (by decide) ?_
      exact e_iW E hW hr hlk rfl rfl (by decide) (by decide) dL_setRemainder_28
def f_L_clear (a1 : Int32) (σ ρ : St) : Option (Int32 × St × St) := wrp [1] tz (f_X6_clear 0 a1 σ) ρ
set_option maxRecDepth 100000 in
theorem m_L_clear {l : Launch} {G : GP} {sz : Nat} {a1 : Int32} {σ τ ρ σ1 ρ1 : St} {r0 : Int32} (hl9 : l.stackTraces = false) (h : f_L_clear a1 σ ρ = some (r0, σ1, ρ1)) : Met l yL_clear [.codeWith yL_clear cL_clear 4 (some .int) [(0, 16, 19, 19)]] ({ frames := 8, cells := 1, slots := 6, locals := 146 } : Room) (va_Pc [.ref (G.2.2.2 + 0), .int a1, .ref (G.2.2.2 + 311)] (PreL G sz (jn σ τ ρ))) (QO (PoC G skA (jn σ1 τ ρ1)) (Aw G.2.2.2 skA.1 sz) (some (.int r0))) 1 6 (Aw G.2.2.2 skA.1 sz) := by
  obtain ⟨r, σ2, hf⟩ : ∃ r σ2, f_X6_clear 0 a1 σ = some (r, σ2) := by
    exact wrp_some h
  unfold f_L_clear at h; rw [hf] at h
  refine mkMetW (by decide +kernel) (Nat.le_of_ble_eq_true rfl) ?_
  intro p e s m below meth c ls E hW hl hr hlk hT hN
  have hl : lv_has ls 4 [(0, .ref (G.2.2.2 + 0)), (1, .int a1), (2, .ref (G.2.2.2 + 311))] := hl
  generalize Aw G.2.2.2 skA.1 s.heap.size = A0 at E hW ⊢
  generalize ([.ref (G.2.2.2 + 0), .int a1, .ref (G.2.2.2 + 311)] : List Value).toArray = args
  refine lv_aload_n E.1 E.2.1 dL_clear_0 rfl (lv_at hl 2 rfl) ?_
  refine lv_iconst (v := (0 : Int32)) E.1 E.2.1 dL_clear_1 (by decide) ?_
  refine lv_aload_n E.1 E.2.1 dL_clear_2 rfl (lv_at hl 0 rfl) ?_
  refine lv_iload_n E.1 E.2.1 dL_clear_3 rfl (lv_at hl 1 rfl) ?_
  refine l_CX (As := [.int a1]) (rest := [.int 0, .ref (G.2.2.2 + 311)]) E hW (m_X6_clear hl9 hf) rfl kw_891 (⟨kw_892, kw_893, kw_1, kw_894⟩ : wV yX6_clear cX6_clear 3 (some .boolean)) (⟨⟨by decide +kernel, by decide +kernel⟩, by decide +kernel⟩ : yOK yX6_clear 1) ⟨rfl, rfl⟩ ⟨(Nat.le_of_ble_eq_true rfl), (Nat.le_of_ble_eq_true rfl)⟩ (lv_size hl) (Nat.le_of_ble_eq_true rfl) ⟨(Nat.le_of_ble_eq_true rfl), (Nat.le_of_ble_eq_true rfl)⟩ rfl dL_clear_4 (fun ex ce q9 H locs hrv hW h1 h2 h3 => ?_) (fun v H locs hrv hW => ?_)
  · rcases r with ex9 | v9
    · cases hrv
      by_cases hx0 : ex = 1
      · subst hx0
        obtain ⟨rfl, rfl, rfl⟩ : (1 : Int32) = r0 ∧ σ2 = σ1 ∧ ρ = ρ1 := by simpa [wrp] using h
        refine w_catch E hN [] [] (0, 16, 19, 19) hT (ex := 1) (by decide) (fun y hy => by cases hy) (by decide) (by decide) kw_635 cst_1 h1 h2 h3 ?_
        refine lv_astore_n (lv' := [(3, .ref q9), (0, .ref (G.2.2.2 + 0)), (1, .int a1), (2, .ref (G.2.2.2 + 311))]) E.1 E.2.1 dL_clear_19 rfl hl (by decide) rfl (fun ls hl => ?_)
        refine lv_iconst (v := (1 : Int32)) E.1 E.2.1 dL_clear_20 (by decide) ?_
        exact e_iW E hW hr hlk rfl rfl (by decide) (by decide) dL_clear_21
      · skip
        simp [wrp, hx0] at h
    · cases hrv
  · rcases r with ex9 | v9
    · cases hrv
    · cases hrv
      refine W.eq (g2 := F0 m 7 ls [.int v9, .int 0, .ref (G.2.2.2 + 311)]) rfl ?_
      obtain ⟨rfl, rfl, rfl⟩ : (0 : Int32) = r0 ∧ σ2 = σ1 ∧ sJ ρ 0 0 (tz v9) = ρ1 := by simpa [wrp] using h
      refine lv_if_eq (tgt := 14) E.1 E.2.1 dL_clear_7 (by decide) (fun g => ?_) (fun g => ?_)
      · refine lv_lconst (v := (0 : Int64)) E.1 E.2.1 dL_clear_14 (by decide) ?_
        refine W.eq (g2 := F0 m 15 ls [.long 0, .int 0, .ref (G.2.2.2 + 311)]) rfl ?_
        refine r_last E hW (q := 311) (n := 1) rfl vin01 dL_clear_15 (fun σ9 H locs eσ9 hW => ?_)
        have eσ9 : σ9 = sJ (jn σ2 τ ρ) 311 0 0 := eσ9
        rw [jn_out] at eσ9; subst eσ9
        refine lv_goto (tgt := 22) E.1 E.2.1 dL_clear_16 (by decide) ?_
        refine lv_iconst (v := (0 : Int32)) E.1 E.2.1 dL_clear_22 (by decide) ?_
        exact e_iW E hW hr hlk rfl (by simp [tz, g]) (by decide) (by decide) dL_clear_23
      · refine lv_lconst (v := (1 : Int64)) E.1 E.2.1 dL_clear_10 (by decide) ?_
        refine lv_goto (tgt := 15) E.1 E.2.1 dL_clear_11 (by decide) ?_
        refine W.eq (g2 := F0 m 15 ls [.long 1, .int 0, .ref (G.2.2.2 + 311)]) rfl ?_
        refine r_last E hW (q := 311) (n := 1) rfl vin01 dL_clear_15 (fun σ9 H locs eσ9 hW => ?_)
        have eσ9 : σ9 = sJ (jn σ2 τ ρ) 311 0 1 := eσ9
        rw [jn_out] at eσ9; subst eσ9
        refine lv_goto (tgt := 22) E.1 E.2.1 dL_clear_16 (by decide) ?_
        refine lv_iconst (v := (0 : Int32)) E.1 E.2.1 dL_clear_22 (by decide) ?_
        exact e_iW E hW hr hlk rfl (by simp [tz, g]) (by decide) (by decide) dL_clear_23
