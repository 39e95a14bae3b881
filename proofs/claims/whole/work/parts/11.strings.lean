/-! LITERALS: length() and charAt(int) of the texts 0 to 9 -/
section LITS
variable {p : Program} {l : Launch} {e : Env} {R : Room} {s : State} {m : MethodId} {args : Array Value} {below : List Frame} {meth : Method} {c : Code} {H : Heap} {locs : List Loc} {cells slots : Nat} {Q : State → Prop}
variable {cc : ByteArray} {nL : Nat} {own : String} {G : GP} {A0 : Nat → Prop} {sk : Sk} {σ σ0 σ1 : St} {pc : Nat} {ls : Array Slot} {rest st0 As : List Value} {sz : Nat}
variable {a idx maxL : Nat} {y : MethodName} {cc' : ByteArray} {ret : Option FieldType} {rm : Room}
theorem c_Vg {rv : Option Value} (E : En p m c s cc nL own G A0) (hW : Wo G sk A0 s σ H locs)
    (hM : Met l y [.code y cc' maxL ret] rm (va_Pc (.ref a :: As) (PreC G sk H.size σ)) (QO (PoC G sk σ1) (Aw G.2.2.2 sk.1 H.size) rv) 0 0 (Aw G.2.2.2 sk.1 H.size))
    (hrecv : ∃ cellB : Cell, H[a]? = some cellB ∧ cellB.vm.isStatics = false ∧ s.vm.findClass y.cls = some cellB.cls) (hl : Cond.methodLink own idx y ∈ FW) (hw : wV y cc' maxL ret) (hy : yOK y As.length) (hrm : rm.cells = 0 ∧ rm.slots = 0) (hR : rm.frames + 1 ≤ R.frames ∧ 8 + (maxL + 11) + rm.locals ≤ R.locals) (hls : ls.size = nL) (hst : (rest.map fun v => v.category).sum ≤ 8) (hcs : cells ≤ R.cells ∧ slots ≤ R.slots)
    (hstack : st0 = As.reverse ++ .ref a :: rest) (hdg : decode cc pc = .ok (.invokevirtual idx, 3))
    (kk : ∀ (H1 : Heap) (locs1 : List Loc), Wo G sk A0 s σ1 H1 locs1 → W p l e R s m args below meth c H1 locs1 cells slots Q (F0 m (pc + 3) ls (rv.toList ++ rest))) : W p l e R s m args below meth c H locs cells slots Q (F0 m pc ls st0) := by
  subst hstack
  have hcode := E.wd (args := args) hw.2.2.2
  refine c_run (va_runV (Ts := FW) (C := y.cls) ⟨E.1, E.2.1, E.2.2.1, E.2.2.2.1, fun w h => E.wd h⟩ hM ⟨⟨hrm.1, hrm.2, hR.1, hR.2, code_ws hcode, List.mem_singleton.mpr rfl, hcode, E.wd hw.2.2.1, hy.1, len_of hy.2, E.wd hl⟩, E.wd hw.1, E.wd hw.2.1⟩ ⟨PreC.blind, hrecv, fun U hU hV => ⟨rfl, PreC.of E.2.2.2.2 hW hU hV⟩⟩ rfl rfl hls rfl (lv_room hst) hdg hcs) hW.2.1 hW.aw hW.aw (fun t H1 locs1 ht hp hS => kk H1 locs1 (hW.next ht hp hS))
theorem Fx.str (h : Fx G A0 s s.heap) {i : Nat} (hi : i < 10) : FxS G.2.2.1 A0 s s.heap i := h.2.2.2.2.1 i hi
theorem str_recv (E : En p m c s cc nL own G A0) (hW : Wo G sk A0 s σ H locs) {i : Nat} (hi : i < 10) : ∃ cellB : Cell, H[G.2.2.1 i]? = some cellB ∧ cellB.vm.isStatics = false ∧ s.vm.findClass "java/lang/String" = some cellB.cls := by
  obtain ⟨cell, h1, h2, h3, -⟩ := (E.2.2.2.2.str hi).1.kept hW.2.1.2.1
  exact ⟨cell, h1, h2, h3⟩
theorem e_n (E : En p m c s cc nL own G A0) (hW : Wo G sk A0 s σ H locs) {ty : FieldType} (hr : meth.sig.returnType = some ty) (hlk : meth.locks = false) {v r0 : Int32} (hn : narrow ty (.int v) = .int v) (h : v = r0) (hσ : σ = σ0) (hdg : decode cc pc = .ok (.ireturn, 1)) :
    W p l e R s m args below meth c H locs 0 0 (MQ below (QO (PoC G sk σ0) A0 (some (.int r0))) args s 0 0 A0) (F0 m pc ls [.int v]) := by
  subst h; subst hσ
  exact W.zret E.1 E.2.1 hr hn (fun t ht _ => ⟨⟨rfl, hW.po ht⟩, hW.2.1.F ht⟩) hW.2.1.2.2 hdg hlk
set_option maxRecDepth 100000 in
theorem m_coder (hsk : SkOK sk) {i : Nat} (hi : i < 10) : Met l yJ0_coder_7d493 [.code yJ0_coder_7d493 cJ0_coder_7d493 1 (some .byte)] ({ frames := 0, cells := 0, slots := 0, locals := 0 } : Room) (va_Pc [.ref (G.2.2.1 i)] (PreC G sk sz σ)) (QO (PoC G sk σ) (Aw G.2.2.2 sk.1 sz) (some (.int 0))) 0 0 (Aw G.2.2.2 sk.1 sz) := by
  refine mkMet (by decide +kernel) (Nat.le_of_ble_eq_true rfl) hsk ?_
  intro p e s m below meth c ls E hW hl hr hlk
  have hl : lv_has ls 1 [(0, .ref (G.2.2.1 i))] := hl
  generalize Aw G.2.2.2 sk.1 s.heap.size = A0 at E hW ⊢
  refine va_gets E.1 E.2.1 E.2.2.2.2.2.2.2.2.2.2.2.2.1 hW.2.1 E.2.2.2.1 (E.wd kw_377) (fun x h => h) dJ0_coder_7d493_0 ?_
  refine lv_if_eq (tgt := 13) E.1 E.2.1 dJ0_coder_7d493_3 (by decide) (fun g => absurd g (by decide)) (fun g => ?_)
  refine lv_aload_n E.1 E.2.1 dJ0_coder_7d493_6 rfl (lv_at hl 0 rfl) ?_
  refine vk_getf E.1 E.2.1 (E.2.2.2.2.str hi).2.1 hW.2.1 E.2.2.2.1 (E.wd kw_1332) (fun x h => h) dJ0_coder_7d493_7 ?_
  refine lv_goto (tgt := 14) E.1 E.2.1 dJ0_coder_7d493_10 (by decide) ?_
  exact e_n E hW hr hlk (by decide) rfl rfl dJ0_coder_7d493_14
set_option maxRecDepth 100000 in
theorem m_isLatin1 (hsk : SkOK sk) {i : Nat} (hi : i < 10) : Met l yJ0_isLatin1_aae02 [.code yJ0_isLatin1_aae02 cJ0_isLatin1_aae02 1 (some .boolean)] ({ frames := 0, cells := 0, slots := 0, locals := 0 } : Room) (va_Pc [.ref (G.2.2.1 i)] (PreC G sk sz σ)) (QO (PoC G sk σ) (Aw G.2.2.2 sk.1 sz) (some (.int 1))) 0 0 (Aw G.2.2.2 sk.1 sz) := by
  refine mkMet (by decide +kernel) (Nat.le_of_ble_eq_true rfl) hsk ?_
  intro p e s m below meth c ls E hW hl hr hlk
  have hl : lv_has ls 1 [(0, .ref (G.2.2.1 i))] := hl
  generalize Aw G.2.2.2 sk.1 s.heap.size = A0 at E hW ⊢
  refine va_gets E.1 E.2.1 E.2.2.2.2.2.2.2.2.2.2.2.2.1 hW.2.1 E.2.2.2.1 (E.wd kw_377) (fun x h => h) dJ0_isLatin1_aae02_0 ?_
  refine lv_if_eq (tgt := 17) E.1 E.2.1 dJ0_isLatin1_aae02_3 (by decide) (fun g => absurd g (by decide)) (fun g => ?_)
  refine lv_aload_n E.1 E.2.1 dJ0_isLatin1_aae02_6 rfl (lv_at hl 0 rfl) ?_
  refine vk_getf E.1 E.2.1 (E.2.2.2.2.str hi).2.1 hW.2.1 E.2.2.2.1 (E.wd kw_1332) (fun x h => h) dJ0_isLatin1_aae02_7 ?_
  refine lv_if_ne (tgt := 17) E.1 E.2.1 dJ0_isLatin1_aae02_10 (by decide) (fun g => absurd rfl g) (fun g => ?_)
  refine lv_iconst (v := 1) E.1 E.2.1 dJ0_isLatin1_aae02_13 (by decide) ?_
  refine lv_goto (tgt := 18) E.1 E.2.1 dJ0_isLatin1_aae02_14 (by decide) ?_
  exact e_n E hW hr hlk (by decide) rfl rfl dJ0_isLatin1_aae02_18
theorem strB_len : ∀ i, i < 10 → (strB i).length < 2 ^ 31 := by decide +kernel
theorem strB_and : ∀ i, i < 10 → ∀ k, k < (strB i).length → ((strB i).getD k 0 &&& 255) = (strB i).getD k 0 ∧ narrow .char (.int ((strB i).getD k 0)) = .int ((strB i).getD k 0) ∧ (((strB i).getD k 0).toUInt32 % 65536).toInt32 = (strB i).getD k 0 := by decide +kernel
set_option maxRecDepth 100000 in
theorem m_len (hsk : SkOK sk) {i : Nat} (hi : i < 10) : Met l yJ0_length_8abf5 [.code yJ0_length_8abf5 cJ0_length_8abf5 1 (some .int)] ({ frames := 1, cells := 0, slots := 0, locals := 20 } : Room) (va_Pc [.ref (G.2.2.1 i)] (PreC G sk sz σ)) (QO (PoC G sk σ) (Aw G.2.2.2 sk.1 sz) (some (.int (nI (strB i).length)))) 0 0 (Aw G.2.2.2 sk.1 sz) := by
  refine mkMet (by decide +kernel) (Nat.le_of_ble_eq_true rfl) hsk ?_
  intro p e s m below meth c ls E hW hl hr hlk
  have hl : lv_has ls 1 [(0, .ref (G.2.2.1 i))] := hl
  generalize Aw G.2.2.2 sk.1 s.heap.size = A0 at E hW ⊢
  refine lv_aload_n E.1 E.2.1 dJ0_length_8abf5_0 rfl (lv_at hl 0 rfl) ?_
  refine vk_getf E.1 E.2.1 (E.2.2.2.2.str hi).2.2.1 hW.2.1 E.2.2.2.1 (E.wd kw_1331) (fun x h => h) dJ0_length_8abf5_1 ?_
  refine va_tlen E.1 E.2.1 (E.2.2.2.2.str hi).2.2.2 hW.2.1 rfl dJ0_length_8abf5_4 ?_
  refine lv_aload_n E.1 E.2.1 dJ0_length_8abf5_5 rfl (lv_at hl 0 rfl) ?_
  refine c_Vg (As := []) (rest := [.int (nI (strB i).length)]) E hW (m_coder hsk hi) (str_recv E hW hi) kw_373 wv_J0_coder_7d493 yo_J0_coder_7d493 ⟨rfl, rfl⟩ ⟨Nat.le_of_ble_eq_true rfl, Nat.le_of_ble_eq_true rfl⟩ (lv_size hl) (Nat.le_of_ble_eq_true rfl) ⟨Nat.le_of_ble_eq_true rfl, Nat.le_of_ble_eq_true rfl⟩ rfl dJ0_length_8abf5_6 (fun H locs hW => ?_)
  refine W.eq (g2 := F0 m 9 ls [.int 0, .int (nI (strB i).length)]) rfl ?_
  refine lv_ishr E.1 E.2.1 dJ0_length_8abf5_9 ?_
  exact e_i E hW hr hlk (by rw [sc_shr0 (strB_len i hi)]) dJ0_length_8abf5_10
set_option maxRecDepth 100000 in
theorem m_pci (hsk : SkOK sk) {k n : Nat} {v : Option Nat} (hk : k < n) (hn : n < 2 ^ 31) : Met l yJ3_checkIndex_8e157 [.code yJ3_checkIndex_8e157 cJ3_checkIndex_8e157 3 (some .int)] ({ frames := 0, cells := 0, slots := 0, locals := 0 } : Room) (va_Pc [.int (nI k), .int (nI n), va_rf v] (PreC G sk sz σ)) (QO (PoC G sk σ) (Aw G.2.2.2 sk.1 sz) (some (.int (nI k)))) 0 0 (Aw G.2.2.2 sk.1 sz) := by
  refine mkMet (by decide +kernel) (by cases v <;> exact Nat.le_of_ble_eq_true rfl) hsk ?_
  intro p e s m below meth c ls E hW hl hr hlk
  have hl : lv_has ls 3 [(0, .int (nI k)), (1, .int (nI n)), (2, va_rf v)] := by cases v <;> exact hl
  generalize Aw G.2.2.2 sk.1 s.heap.size = A0 at E hW ⊢
  refine lv_iload_n E.1 E.2.1 dJ3_checkIndex_8e157_0 rfl (lv_at hl 0 rfl) ?_
  refine lv_if_lt (tgt := 9) E.1 E.2.1 dJ3_checkIndex_8e157_1 (by decide) (fun g => absurd g (nI_pos (by omega))) (fun g => ?_)
  refine lv_iload_n E.1 E.2.1 dJ3_checkIndex_8e157_4 rfl (lv_at hl 0 rfl) ?_
  refine lv_iload_n E.1 E.2.1 dJ3_checkIndex_8e157_5 rfl (lv_at hl 1 rfl) ?_
  refine lv_icmp_lt (tgt := 16) E.1 E.2.1 dJ3_checkIndex_8e157_6 (by decide) (fun g => ?_) (fun g => absurd (nI_lt hk hn) g)
  refine lv_iload_n E.1 E.2.1 dJ3_checkIndex_8e157_16 rfl (lv_at hl 0 rfl) ?_
  exact e_i E hW hr hlk rfl dJ3_checkIndex_8e157_17
set_option maxRecDepth 100000 in
theorem m_sci (hsk : SkOK sk) {k n : Nat} (hk : k < n) (hn : n < 2 ^ 31) : Met l yJ0_checkIndex_df160 [.code yJ0_checkIndex_df160 cJ0_checkIndex_df160 2 none] ({ frames := 1, cells := 0, slots := 0, locals := 22 } : Room) (va_Pc [.int (nI k), .int (nI n)] (PreC G sk sz σ)) (QO (PoC G sk σ) (Aw G.2.2.2 sk.1 sz) none) 0 0 (Aw G.2.2.2 sk.1 sz) := by
  refine mkMet (by decide +kernel) (Nat.le_of_ble_eq_true rfl) hsk ?_
  intro p e s m below meth c ls E hW hl hr hlk
  have hl : lv_has ls 2 [(0, .int (nI k)), (1, .int (nI n))] := hl
  generalize Aw G.2.2.2 sk.1 s.heap.size = A0 at E hW ⊢
  obtain ⟨v, hv⟩ := E.2.2.2.2.2.2.2.2.2.2.2.2.2
  refine lv_iload_n E.1 E.2.1 dJ0_checkIndex_df160_0 rfl (lv_at hl 0 rfl) ?_
  refine lv_iload_n E.1 E.2.1 dJ0_checkIndex_df160_1 rfl (lv_at hl 1 rfl) ?_
  refine va_gets E.1 E.2.1 hv hW.2.1 E.2.2.2.1 (E.wd kw_393) (fun x h => h) dJ0_checkIndex_df160_2 ?_
  refine c_S (As := [.int (nI k), .int (nI n), va_rf v]) (rest := []) E hW (m_pci hsk hk hn) kw_395 ws_J3_checkIndex_8e157 yo_J3_checkIndex_8e157 ⟨rfl, rfl⟩ ⟨Nat.le_of_ble_eq_true rfl, Nat.le_of_ble_eq_true rfl⟩ (lv_size hl) (Nat.le_of_ble_eq_true rfl) ⟨Nat.le_of_ble_eq_true rfl, Nat.le_of_ble_eq_true rfl⟩ rfl dJ0_checkIndex_df160_5 (fun H locs hW => ?_)
  refine W.eq (g2 := F0 m 8 ls [.int (nI k)]) rfl ?_
  refine lv_pop E.1 E.2.1 dJ0_checkIndex_df160_8 rfl ?_
  exact e_v E hW hr hlk (r0 := ()) rfl dJ0_checkIndex_df160_9
set_option maxRecDepth 100000 in
theorem m_lca (hsk : SkOK sk) {i k : Nat} (hi : i < 10) (hk : k < (strB i).length) : Met l yJ1_charAt_3b067 [.code yJ1_charAt_3b067 cJ1_charAt_3b067 2 (some .char)] ({ frames := 2, cells := 0, slots := 0, locals := 50 } : Room) (va_Pc [.ref (G.2.2.1 (100 + i)), .int (nI k)] (PreC G sk sz σ)) (QO (PoC G sk σ) (Aw G.2.2.2 sk.1 sz) (some (.int ((strB i).getD k 0)))) 0 0 (Aw G.2.2.2 sk.1 sz) := by
  refine mkMet (by decide +kernel) (Nat.le_of_ble_eq_true rfl) hsk ?_
  intro p e s m below meth c ls E hW hl hr hlk
  have hl : lv_has ls 2 [(0, .ref (G.2.2.1 (100 + i))), (1, .int (nI k))] := hl
  generalize Aw G.2.2.2 sk.1 s.heap.size = A0 at E hW ⊢
  have hn := strB_len i hi
  obtain ⟨b1, b2, b3⟩ := strB_and i hi k hk
  refine lv_iload_n E.1 E.2.1 dJ1_charAt_3b067_0 rfl (lv_at hl 1 rfl) ?_
  refine lv_aload_n E.1 E.2.1 dJ1_charAt_3b067_1 rfl (lv_at hl 0 rfl) ?_
  refine va_tlen E.1 E.2.1 (E.2.2.2.2.str hi).2.2.2 hW.2.1 rfl dJ1_charAt_3b067_2 ?_
  refine c_S (As := [.int (nI k), .int (nI (strB i).length)]) (rest := []) E hW (m_sci hsk hk hn) kw_390 ws_J0_checkIndex_df160 yo_J0_checkIndex_df160 ⟨rfl, rfl⟩ ⟨Nat.le_of_ble_eq_true rfl, Nat.le_of_ble_eq_true rfl⟩ (lv_size hl) (Nat.le_of_ble_eq_true rfl) ⟨Nat.le_of_ble_eq_true rfl, Nat.le_of_ble_eq_true rfl⟩ rfl dJ1_charAt_3b067_3 (fun H locs hW => ?_)
  refine W.eq (g2 := F0 m 6 ls []) rfl ?_
  refine lv_aload_n E.1 E.2.1 dJ1_charAt_3b067_6 rfl (lv_at hl 0 rfl) ?_
  refine lv_iload_n E.1 E.2.1 dJ1_charAt_3b067_7 rfl (lv_at hl 1 rfl) ?_
  refine va_tb E.1 E.2.1 (E.2.2.2.2.str hi).2.2.2 hW.2.1 (vp_in_nI hk hn) rfl dJ1_charAt_3b067_8 ?_
  rw [nI_clamp (Nat.lt_trans hk hn)]
  refine lv_sipush (v := 255) E.1 E.2.1 dJ1_charAt_3b067_9 (by decide) ?_
  refine lv_iand E.1 E.2.1 dJ1_charAt_3b067_12 ?_
  rw [b1]
  refine lv_i2c E.1 E.2.1 dJ1_charAt_3b067_13 b3 ?_
  exact e_n E hW hr hlk b2 rfl rfl dJ1_charAt_3b067_14
set_option maxRecDepth 100000 in
theorem m_cha (hsk : SkOK sk) {i k : Nat} (hi : i < 10) (hk : k < (strB i).length) : Met l yJ0_charAt_5068e [.code yJ0_charAt_5068e cJ0_charAt_5068e 2 (some .char)] ({ frames := 3, cells := 0, slots := 0, locals := 80 } : Room) (va_Pc [.ref (G.2.2.1 i), .int (nI k)] (PreC G sk sz σ)) (QO (PoC G sk σ) (Aw G.2.2.2 sk.1 sz) (some (.int ((strB i).getD k 0)))) 0 0 (Aw G.2.2.2 sk.1 sz) := by
  refine mkMet (by decide +kernel) (Nat.le_of_ble_eq_true rfl) hsk ?_
  intro p e s m below meth c ls E hW hl hr hlk
  have hl : lv_has ls 2 [(0, .ref (G.2.2.1 i)), (1, .int (nI k))] := hl
  generalize Aw G.2.2.2 sk.1 s.heap.size = A0 at E hW ⊢
  refine lv_aload_n E.1 E.2.1 dJ0_charAt_5068e_0 rfl (lv_at hl 0 rfl) ?_
  refine c_Vg (As := []) (rest := []) E hW (m_isLatin1 hsk hi) (str_recv E hW hi) kw_383 wv_J0_isLatin1_aae02 yo_J0_isLatin1_aae02 ⟨rfl, rfl⟩ ⟨Nat.le_of_ble_eq_true rfl, Nat.le_of_ble_eq_true rfl⟩ (lv_size hl) (Nat.le_of_ble_eq_true rfl) ⟨Nat.le_of_ble_eq_true rfl, Nat.le_of_ble_eq_true rfl⟩ rfl dJ0_charAt_5068e_1 (fun H locs hW => ?_)
  refine W.eq (g2 := F0 m 4 ls [.int 1]) rfl ?_
  refine lv_if_eq (tgt := 16) E.1 E.2.1 dJ0_charAt_5068e_4 (by decide) (fun g => absurd g (by decide)) (fun g => ?_)
  refine lv_aload_n E.1 E.2.1 dJ0_charAt_5068e_7 rfl (lv_at hl 0 rfl) ?_
  refine vk_getf E.1 E.2.1 (E.2.2.2.2.str hi).2.2.1 hW.2.1 E.2.2.2.1 (E.wd kw_1331) (fun x h => h) dJ0_charAt_5068e_8 ?_
  refine lv_iload_n E.1 E.2.1 dJ0_charAt_5068e_11 rfl (lv_at hl 1 rfl) ?_
  refine c_S (As := [.ref (G.2.2.1 (100 + i)), .int (nI k)]) (rest := []) E hW (m_lca hsk hi hk) kw_387 ws_J1_charAt_3b067 yo_J1_charAt_3b067 ⟨rfl, rfl⟩ ⟨Nat.le_of_ble_eq_true rfl, Nat.le_of_ble_eq_true rfl⟩ (lv_size hl) (Nat.le_of_ble_eq_true rfl) ⟨Nat.le_of_ble_eq_true rfl, Nat.le_of_ble_eq_true rfl⟩ rfl dJ0_charAt_5068e_12 (fun H locs hW => ?_)
  refine W.eq (g2 := F0 m 15 ls [.int ((strB i).getD k 0)]) rfl ?_
  exact e_n E hW hr hlk (strB_and i hi k hk).2.1 rfl rfl dJ0_charAt_5068e_15
theorem c_len (E : En p m c s cc nL own G A0) (hW : Wo G sk A0 s σ H locs) (hls : ls.size = nL) {i : Nat} (hi : i < 10) (hl : Cond.methodLink own idx yJ0_length_8abf5 ∈ FW) (hst : (rest.map fun v => v.category).sum ≤ 8) (hR : 2 ≤ R.frames ∧ 40 ≤ R.locals) (hcs : cells ≤ R.cells ∧ slots ≤ R.slots) (hdg : decode cc pc = .ok (.invokevirtual idx, 3))
    (kk : ∀ (H1 : Heap) (locs1 : List Loc), Wo G sk A0 s σ H1 locs1 → W p l e R s m args below meth c H1 locs1 cells slots Q (F0 m (pc + 3) ls (.int (nI (strB i).length) :: rest))) : W p l e R s m args below meth c H locs cells slots Q (F0 m pc ls (.ref (G.2.2.1 i) :: rest)) :=
  c_Vg (As := []) (rest := rest) E hW (m_len hW.2.2.2.1 hi) (str_recv E hW hi) hl wv_J0_length_8abf5 yo_J0_length_8abf5 ⟨rfl, rfl⟩ ⟨hR.1, hR.2⟩ hls hst hcs rfl hdg kk
theorem c_charAt (E : En p m c s cc nL own G A0) (hW : Wo G sk A0 s σ H locs) (hls : ls.size = nL) {i : Nat} {x : Int32} (hi : i < 10 ∧ ¬ (x < 0 ∨ (strB i).length ≤ x.toNatClampNeg)) (hl : Cond.methodLink own idx yJ0_charAt_5068e ∈ FW) (hst : (rest.map fun v => v.category).sum ≤ 8) (hR : 4 ≤ R.frames ∧ 101 ≤ R.locals) (hcs : cells ≤ R.cells ∧ slots ≤ R.slots) (hdg : decode cc pc = .ok (.invokevirtual idx, 3))
    (kk : ∀ (H1 : Heap) (locs1 : List Loc), Wo G sk A0 s σ H1 locs1 → W p l e R s m args below meth c H1 locs1 cells slots Q (F0 m (pc + 3) ls (.int ((strB i).getD x.toNatClampNeg 0) :: rest))) : W p l e R s m args below meth c H locs cells slots Q (F0 m pc ls (.int x :: .ref (G.2.2.1 i) :: rest)) := by
  obtain ⟨hi, hx⟩ := hi
  have hn := strB_len i hi
  obtain ⟨k, hk, rfl⟩ := vp_in_of (n := (strB i).length) hx hn
  rw [nI_clamp (Nat.lt_trans hk hn)] at kk
  exact c_Vg (As := [.int (nI k)]) (rest := rest) E hW (m_cha hW.2.2.2.1 hi hk) (str_recv E hW hi) hl wv_J0_charAt_5068e yo_J0_charAt_5068e ⟨rfl, rfl⟩ ⟨hR.1, hR.2⟩ hls hst hcs rfl hdg kk
end LITS
