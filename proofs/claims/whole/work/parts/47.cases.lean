/-! THE LAW: one call of each kind, then the loop -/
def dst {α : Type} [DecidableEq α] (X Y : Option (α × St)) (ρ : St) : Option (St × St × St) := match X, Y with
  | some (x, σ1), some (y, τ1) => if x = y then some (σ1, τ1, ρ) else none
  | _, _ => none
theorem dst_r {α : Type} [DecidableEq α] {X Y : Option (α × St)} {ρ σ1 τ1 ρ1 : St} (h : dst X Y ρ = some (σ1, τ1, ρ1)) : ∃ x, X = some (x, σ1) ∧ Y = some (x, τ1) ∧ ρ1 = ρ := by
  rcases X with _ | ⟨x, σ2⟩
  · cases h
  rcases Y with _ | ⟨y, τ2⟩
  · cases h
  by_cases hxy : x = y
  · subst hxy
    simp [dst] at h
    obtain ⟨rfl, rfl, rfl⟩ := h
    exact ⟨x, rfl, rfl, rfl⟩
  · simp [dst, hxy] at h
def wst (X : Option (Int32 × St × St)) (Y : Option (Int32 × St)) (tl : Int32 → Int64) : Option (St × St × St) := match X, Y with
  | some (k, σ1, ρ1), some (b, τ1) => match f_X7_thrown 0 τ1 with
    | some (t, τ2) => if t = k then if k = 0 then if ρ1.2 0 0 = tl b then some (σ1, τ2, ρ1) else none else some (σ1, τ2, ρ1) else none
    | none => none
  | _, _ => none
theorem wst_r {X : Option (Int32 × St × St)} {Y : Option (Int32 × St)} {tl : Int32 → Int64} {σ1 τ2 ρ1 : St} (h : wst X Y tl = some (σ1, τ2, ρ1)) : ∃ k b τ1, X = some (k, σ1, ρ1) ∧ Y = some (b, τ1) ∧ f_X7_thrown 0 τ1 = some (k, τ2) ∧ (k = 0 → ρ1.2 0 0 = tl b) := by
  rcases X with _ | ⟨k, σ3, ρ3⟩
  · cases h
  rcases Y with _ | ⟨b, τ3⟩
  · cases h
  rcases ht : f_X7_thrown 0 τ3 with _ | ⟨t, τ4⟩
  · simp [wst, ht] at h
  by_cases h1 : t = k
  · subst h1
    by_cases h2 : t = 0
    · subst h2
      by_cases h3 : ρ3.2 0 0 = tl b
      · simp [wst, ht, h3] at h
        obtain ⟨rfl, rfl, rfl⟩ := h
        exact ⟨0, b, τ3, rfl, rfl, ht, fun _ => h3⟩
      · simp [wst, ht, h3] at h
    · simp [wst, ht, h2] at h
      obtain ⟨rfl, rfl, rfl⟩ := h
      exact ⟨t, b, τ3, rfl, rfl, ht, fun z => absurd z h2⟩
  · simp [wst, ht, h1] at h
def stp (j : Nat) (a1 a2 a3 a4 a5 : Int32) (σ τ ρ : St) : Option (St × St × St) := match j with
  | 0 => dst (f_X6_append 0 a1 a2 a3 a4 a5 σ) (f_X7_append 0 a1 a2 a3 a4 a5 τ) ρ
  | 1 => wst (f_L_load a1 σ ρ) (f_X7_load 0 a1 τ) Int32.toInt64
  | 2 => dst (f_X6_errorOffset 0  σ) (f_X7_errorOffset 0  τ) ρ
  | 3 => dst (f_X6_defined 0  σ) (f_X7_defined 0  τ) ρ
  | 4 => wst (f_L_coefficient a1 a2 a3 σ ρ) (f_X7_coefficient 0 a1 a2 a3 τ) Int32.toInt64
  | 5 => wst (f_L_remainder a1 a2 σ ρ) (f_X7_remainder 0 a1 a2 τ) Int32.toInt64
  | 6 => wst (f_L_bound a1 a2 σ ρ) (f_X7_bound 0 a1 a2 τ) Int32.toInt64
  | 7 => wst (f_L_value a1 a2 a3 a4 σ ρ) (f_X7_value 0 a1 a2 a3 a4 τ) Int32.toInt64
  | 8 => wst (f_L_degree a1 σ ρ) (f_X7_degree 0 a1 τ) Int32.toInt64
  | 9 => wst (f_L_covers a1 a2 σ ρ) (f_X7_covers 0 a1 a2 τ) tz
  | 10 => wst (f_L_reason a1 a2 a3 σ ρ) (f_X7_reason 0 a1 a2 a3 τ) Int32.toInt64
  | 11 => wst (f_L_add a1 a2 a3 σ ρ) (f_X7_add 0 a1 a2 a3 τ) Int32.toInt64
  | 12 => wst (f_L_subtract a1 a2 a3 σ ρ) (f_X7_subtract 0 a1 a2 a3 τ) Int32.toInt64
  | 13 => wst (f_L_multiply a1 a2 a3 σ ρ) (f_X7_multiply 0 a1 a2 a3 τ) Int32.toInt64
  | 14 => wst (f_L_compose a1 a2 a3 a4 σ ρ) (f_X7_compose 0 a1 a2 a3 a4 τ) Int32.toInt64
  | 15 => wst (f_L_integrate a1 a2 a3 σ ρ) (f_X7_integrate 0 a1 a2 a3 τ) Int32.toInt64
  | 16 => wst (f_L_step a1 a2 σ ρ) (f_X7_step 0 a1 a2 τ) Int32.toInt64
  | 17 => wst (f_L_sweep a1 a2 σ ρ) (f_X7_sweep 0 a1 a2 τ) Int32.toInt64
  | 18 => wst (f_L_wrap a1 a2 σ ρ) (f_X7_wrap 0 a1 a2 τ) Int32.toInt64
  | 19 => wst (f_L_setCoefficient a1 a2 a3 a4 σ ρ) (f_X7_setCoefficient 0 a1 a2 a3 a4 τ) Int32.toInt64
  | 20 => wst (f_L_setRemainder a1 a2 a3 σ ρ) (f_X7_setRemainder 0 a1 a2 a3 τ) Int32.toInt64
  | 21 => wst (f_L_clear a1 σ ρ) (f_X7_clear 0 a1 τ) tz
  | 22 => dst (f_X6_undo 0  σ) (f_X7_undo 0  τ) ρ
  | 23 => dst (f_X6_checksum 0  σ) (f_X7_checksum 0  τ) ρ
  | _ => some (σ, τ, ρ)
set_option maxHeartbeats 4000000 in
set_option maxRecDepth 100000 in
theorem L_append {p : Program} {l : Launch} {e : Env} {s : State} {m : MethodId} {args : Array Value} {below : List Frame} {meth : Method} {c : Code} {H : Heap} {locs : List Loc} {cells slots : Nat} {Q : State → Prop} {G : GP} {A0 : Nat → Prop} {σ τ ρ σ' τ' ρ' : St} {ls : Array Slot} {bs L : Nat} {xs : Nat → Int32} {i4 a1 a2 a3 a4 a5 : Int32} (E : En p m c s cL_law 7 RL G A0) (hN : Nc4 s) (hl9 : l.stackTraces = false) (hX : va_X bs L xs s s.heap) (hbl : bs < s.heap.size) (hbA : ¬ A0 bs) (hW : Wo G skA A0 s (jn σ τ ρ) H locs)
    (y1 : vp_in (i4 + 1) L ∧ xs (i4 + 1).toNatClampNeg = a1) (y2 : vp_in (i4 + 2) L ∧ xs (i4 + 2).toNatClampNeg = a2) (y3 : vp_in (i4 + 3) L ∧ xs (i4 + 3).toNatClampNeg = a3) (y4 : vp_in (i4 + 4) L ∧ xs (i4 + 4).toNatClampNeg = a4) (y5 : vp_in (i4 + 5) L ∧ xs (i4 + 5).toNatClampNeg = a5)
    (hl : lv_has ls 7 [(0, .ref bs), (1, .ref (G.2.2.2 + 0)), (2, .ref (G.2.2.2 + 258)), (3, .ref (G.2.2.2 + 311)), (4, .int i4)]) (hcs : cells + 8 ≤ 601024 ∧ slots + 48 ≤ 7293034) (h : dst (f_X6_append 0 a1 a2 a3 a4 a5 σ) (f_X7_append 0 a1 a2 a3 a4 a5 τ) ρ = some (σ', τ', ρ'))
    (kk : ∀ (cells1 slots1 : Nat) (H1 : Heap) (locs1 : List Loc) (ls1 : Array Slot), cells1 ≤ cells + 8 → slots1 ≤ slots + 48 → Wo G skA A0 s (jn σ' τ' ρ') H1 locs1 → lv_has ls1 7 [(0, .ref bs), (1, .ref (G.2.2.2 + 0)), (2, .ref (G.2.2.2 + 258)), (3, .ref (G.2.2.2 + 311)), (4, .int i4)] → W p l e room_1 s m args below meth c H1 locs1 cells1 slots1 Q (F0 m 1704 ls1 [])) :
    W p l e room_1 s m args below meth c H locs cells slots Q (F0 m 152 ls []) := by
  obtain ⟨v, hc6, hc7, rfl⟩ := dst_r h
  refine lv_aload_n E.1 E.2.1 dL_law_152 rfl (lv_at hl 1 rfl) ?_
  refine lv_aload_n E.1 E.2.1 dL_law_153 rfl (lv_at hl 0 rfl) ?_
  refine lv_iload E.1 E.2.1 dL_law_154 (lv_at hl 4 rfl) ?_
  refine lv_iconst (v := (1 : Int32)) E.1 E.2.1 dL_law_156 (by decide) ?_
  refine lv_iadd E.1 E.2.1 dL_law_157 ?_
  refine va_sld E.1 E.2.1 hX hbl hbA hW.2.1 y1.1 dL_law_158 ?_
  rw [y1.2]
  refine lv_aload_n E.1 E.2.1 dL_law_159 rfl (lv_at hl 0 rfl) ?_
  refine lv_iload E.1 E.2.1 dL_law_160 (lv_at hl 4 rfl) ?_
  refine lv_iconst (v := (2 : Int32)) E.1 E.2.1 dL_law_162 (by decide) ?_
  refine lv_iadd E.1 E.2.1 dL_law_163 ?_
  refine va_sld E.1 E.2.1 hX hbl hbA hW.2.1 y2.1 dL_law_164 ?_
  rw [y2.2]
  refine lv_aload_n E.1 E.2.1 dL_law_165 rfl (lv_at hl 0 rfl) ?_
  refine lv_iload E.1 E.2.1 dL_law_166 (lv_at hl 4 rfl) ?_
  refine lv_iconst (v := (3 : Int32)) E.1 E.2.1 dL_law_168 (by decide) ?_
  refine lv_iadd E.1 E.2.1 dL_law_169 ?_
  refine va_sld E.1 E.2.1 hX hbl hbA hW.2.1 y3.1 dL_law_170 ?_
  rw [y3.2]
  refine lv_aload_n E.1 E.2.1 dL_law_171 rfl (lv_at hl 0 rfl) ?_
  refine lv_iload E.1 E.2.1 dL_law_172 (lv_at hl 4 rfl) ?_
  refine lv_iconst (v := (4 : Int32)) E.1 E.2.1 dL_law_174 (by decide) ?_
  refine lv_iadd E.1 E.2.1 dL_law_175 ?_
  refine va_sld E.1 E.2.1 hX hbl hbA hW.2.1 y4.1 dL_law_176 ?_
  rw [y4.2]
  refine lv_aload_n E.1 E.2.1 dL_law_177 rfl (lv_at hl 0 rfl) ?_
  refine lv_iload E.1 E.2.1 dL_law_178 (lv_at hl 4 rfl) ?_
  refine lv_iconst (v := (5 : Int32)) E.1 E.2.1 dL_law_180 (by decide) ?_
  refine lv_iadd E.1 E.2.1 dL_law_181 ?_
  refine va_sld E.1 E.2.1 hX hbl hbA hW.2.1 y5.1 dL_law_182 ?_
  rw [y5.2]
  refine l_C (As := [.int a1, .int a2, .int a3, .int a4, .int a5]) (rest := []) E hW (m_X6_append (sz := H.size) hc6) rfl kw_224 (⟨kw_225, kw_226, kw_1, kw_227⟩ : wV yX6_append cX6_append 7 (some .int)) (⟨⟨by decide +kernel, by decide +kernel⟩, by decide +kernel⟩ : yOK yX6_append 5) ⟨rfl, rfl⟩ ⟨(Nat.le_of_ble_eq_true rfl), (Nat.le_of_ble_eq_true rfl)⟩ (lv_size hl) (Nat.le_of_ble_eq_true rfl) ⟨show cells ≤ 601024 by omega, show slots ≤ 7293034 by omega⟩ rfl dL_law_183 (fun H locs hW => ?_)
  refine W.eq (g2 := F0 m 186 ls [.int v]) rfl ?_
  refine lv_aload_n E.1 E.2.1 dL_law_186 rfl (lv_at hl 2 rfl) ?_
  refine lv_aload_n E.1 E.2.1 dL_law_187 rfl (lv_at hl 0 rfl) ?_
  refine lv_iload E.1 E.2.1 dL_law_188 (lv_at hl 4 rfl) ?_
  refine lv_iconst (v := (1 : Int32)) E.1 E.2.1 dL_law_190 (by decide) ?_
  refine lv_iadd E.1 E.2.1 dL_law_191 ?_
  refine va_sld E.1 E.2.1 hX hbl hbA hW.2.1 y1.1 dL_law_192 ?_
  rw [y1.2]
  refine lv_aload_n E.1 E.2.1 dL_law_193 rfl (lv_at hl 0 rfl) ?_
  refine lv_iload E.1 E.2.1 dL_law_194 (lv_at hl 4 rfl) ?_
  refine lv_iconst (v := (2 : Int32)) E.1 E.2.1 dL_law_196 (by decide) ?_
  refine lv_iadd E.1 E.2.1 dL_law_197 ?_
  refine va_sld E.1 E.2.1 hX hbl hbA hW.2.1 y2.1 dL_law_198 ?_
  rw [y2.2]
  refine lv_aload_n E.1 E.2.1 dL_law_199 rfl (lv_at hl 0 rfl) ?_
  refine lv_iload E.1 E.2.1 dL_law_200 (lv_at hl 4 rfl) ?_
  refine lv_iconst (v := (3 : Int32)) E.1 E.2.1 dL_law_202 (by decide) ?_
  refine lv_iadd E.1 E.2.1 dL_law_203 ?_
  refine va_sld E.1 E.2.1 hX hbl hbA hW.2.1 y3.1 dL_law_204 ?_
  rw [y3.2]
  refine lv_aload_n E.1 E.2.1 dL_law_205 rfl (lv_at hl 0 rfl) ?_
  refine lv_iload E.1 E.2.1 dL_law_206 (lv_at hl 4 rfl) ?_
  refine lv_iconst (v := (4 : Int32)) E.1 E.2.1 dL_law_208 (by decide) ?_
  refine lv_iadd E.1 E.2.1 dL_law_209 ?_
  refine va_sld E.1 E.2.1 hX hbl hbA hW.2.1 y4.1 dL_law_210 ?_
  rw [y4.2]
  refine lv_aload_n E.1 E.2.1 dL_law_211 rfl (lv_at hl 0 rfl) ?_
  refine lv_iload E.1 E.2.1 dL_law_212 (lv_at hl 4 rfl) ?_
  refine lv_iconst (v := (5 : Int32)) E.1 E.2.1 dL_law_214 (by decide) ?_
  refine lv_iadd E.1 E.2.1 dL_law_215 ?_
  refine va_sld E.1 E.2.1 hX hbl hbA hW.2.1 y5.1 dL_law_216 ?_
  rw [y5.2]
  refine l_R (As := [.int a1, .int a2, .int a3, .int a4, .int a5]) (rest := [.int v]) E hW (m_X7_append (sz := H.size) hc7) rfl kw_1004 (⟨kw_1005, kw_1006, kw_8, kw_1007⟩ : wV yX7_append cX7_append 8 (some .int)) (⟨⟨by decide +kernel, by decide +kernel⟩, by decide +kernel⟩ : yOK yX7_append 5) ⟨rfl, rfl⟩ ⟨(Nat.le_of_ble_eq_true rfl), (Nat.le_of_ble_eq_true rfl)⟩ (lv_size hl) (Nat.le_of_ble_eq_true rfl) ⟨show cells ≤ 601024 by omega, show slots ≤ 7293034 by omega⟩ rfl dL_law_217 (fun H locs hW => ?_)
  refine W.eq (g2 := F0 m 220 ls [.int v, .int v]) rfl ?_
  refine lv_icmp_eq (tgt := 1704) E.1 E.2.1 dL_law_220 (by decide) (fun g => ?_) (fun g => absurd rfl g)
  exact kk cells slots _ _ _ (by omega) (by omega) hW (lv_sub hl [0, 1, 2, 3, 4] rfl)
set_option maxHeartbeats 4000000 in
set_option maxRecDepth 100000 in
theorem L_load {p : Program} {l : Launch} {e : Env} {s : State} {m : MethodId} {args : Array Value} {below : List Frame} {meth : Method} {c : Code} {H : Heap} {locs : List Loc} {cells slots : Nat} {Q : State → Prop} {G : GP} {A0 : Nat → Prop} {σ τ ρ σ' τ' ρ' : St} {ls : Array Slot} {bs L : Nat} {xs : Nat → Int32} {i4 a1 a2 a3 a4 a5 : Int32} (E : En p m c s cL_law 7 RL G A0) (hN : Nc4 s) (hl9 : l.stackTraces = false) (hX : va_X bs L xs s s.heap) (hbl : bs < s.heap.size) (hbA : ¬ A0 bs) (hW : Wo G skA A0 s (jn σ τ ρ) H locs)
    (y1 : vp_in (i4 + 1) L ∧ xs (i4 + 1).toNatClampNeg = a1) (y2 : vp_in (i4 + 2) L ∧ xs (i4 + 2).toNatClampNeg = a2) (y3 : vp_in (i4 + 3) L ∧ xs (i4 + 3).toNatClampNeg = a3) (y4 : vp_in (i4 + 4) L ∧ xs (i4 + 4).toNatClampNeg = a4) (y5 : vp_in (i4 + 5) L ∧ xs (i4 + 5).toNatClampNeg = a5)
    (hl : lv_has ls 7 [(0, .ref bs), (1, .ref (G.2.2.2 + 0)), (2, .ref (G.2.2.2 + 258)), (3, .ref (G.2.2.2 + 311)), (4, .int i4)]) (hcs : cells + 8 ≤ 601024 ∧ slots + 48 ≤ 7293034) (h : wst (f_L_load a1 σ ρ) (f_X7_load 0 a1 τ) Int32.toInt64 = some (σ', τ', ρ'))
    (kk : ∀ (cells1 slots1 : Nat) (H1 : Heap) (locs1 : List Loc) (ls1 : Array Slot), cells1 ≤ cells + 8 → slots1 ≤ slots + 48 → Wo G skA A0 s (jn σ' τ' ρ') H1 locs1 → lv_has ls1 7 [(0, .ref bs), (1, .ref (G.2.2.2 + 0)), (2, .ref (G.2.2.2 + 258)), (3, .ref (G.2.2.2 + 311)), (4, .int i4)] → W p l e room_1 s m args below meth c H1 locs1 cells1 slots1 Q (F0 m 1704 ls1 [])) :
    W p l e room_1 s m args below meth c H locs cells slots Q (F0 m 225 ls []) := by
  obtain ⟨k, v, τ1, hc6, hc7, hct, hk⟩ := wst_r h
  refine lv_aload_n E.1 E.2.1 dL_law_225 rfl (lv_at hl 1 rfl) ?_
  refine lv_aload_n E.1 E.2.1 dL_law_226 rfl (lv_at hl 0 rfl) ?_
  refine lv_iload E.1 E.2.1 dL_law_227 (lv_at hl 4 rfl) ?_
  refine lv_iconst (v := (1 : Int32)) E.1 E.2.1 dL_law_229 (by decide) ?_
  refine lv_iadd E.1 E.2.1 dL_law_230 ?_
  refine va_sld E.1 E.2.1 hX hbl hbA hW.2.1 y1.1 dL_law_231 ?_
  rw [y1.2]
  refine lv_aload_n E.1 E.2.1 dL_law_232 rfl (lv_at hl 3 rfl) ?_
  refine c_SW (As := [.ref (G.2.2.2 + 0), .int a1, .ref (G.2.2.2 + 311)]) (rest := []) E hN hW (m_L_load (sz := H.size) (τ := τ) hl9 hc6) kw_272 ⟨kw_273, ini_L, kw_274⟩ (⟨⟨by decide +kernel, by decide +kernel⟩, by decide +kernel⟩ : yOK yL_load 3) ⟨rfl, rfl⟩ ⟨(Nat.le_of_ble_eq_true rfl), (Nat.le_of_ble_eq_true rfl)⟩ (lv_size hl) (Nat.le_of_ble_eq_true rfl) ⟨show cells + 1 ≤ 601024 by omega, show slots + 6 ≤ 7293034 by omega⟩ rfl dL_law_233 (fun H locs hW => ?_)
  refine W.eq (g2 := F0 m 236 ls [.int k]) rfl ?_
  refine lv_istore (lv' := [(5, .int k), (0, .ref bs), (1, .ref (G.2.2.2 + 0)), (2, .ref (G.2.2.2 + 258)), (3, .ref (G.2.2.2 + 311)), (4, .int i4)]) E.1 E.2.1 dL_law_236 hl (by decide) rfl (fun ls hl => ?_)
  refine lv_aload_n E.1 E.2.1 dL_law_238 rfl (lv_at hl 3 rfl) ?_
  refine lv_aload_n E.1 E.2.1 dL_law_239 rfl (lv_at hl 1 rfl) ?_
  refine lv_iload E.1 E.2.1 dL_law_240 (lv_at hl 5 rfl) ?_
  refine lv_iconst (v := (1 : Int32)) E.1 E.2.1 dL_law_242 (by decide) ?_
  refine lv_iadd E.1 E.2.1 dL_law_243 ?_
  refine va_sld E.1 E.2.1 hX hbl hbA hW.2.1 y1.1 dL_law_244 ?_
  rw [y1.2]
  refine l_R (As := [.int a1]) (rest := []) E hW (m_X7_load (sz := H.size) hc7) rfl kw_1008 (⟨kw_1009, kw_1010, kw_8, kw_1011⟩ : wV yX7_load cX7_load 4 (some .int)) (⟨⟨by decide +kernel, by decide +kernel⟩, by decide +kernel⟩ : yOK yX7_load 1) ⟨rfl, rfl⟩ ⟨(Nat.le_of_ble_eq_true rfl), (Nat.le_of_ble_eq_true rfl)⟩ (lv_size hl) (Nat.le_of_ble_eq_true rfl) ⟨show cells + 1 ≤ 601024 by omega, show slots + 6 ≤ 7293034 by omega⟩ rfl dL_law_245 (fun H locs hW => ?_)
  refine W.eq (g2 := F0 m 248 ls [.int v]) rfl ?_
  refine lv_istore (lv' := [(6, .int v), (5, .int k), (0, .ref bs), (1, .ref (G.2.2.2 + 0)), (2, .ref (G.2.2.2 + 258)), (3, .ref (G.2.2.2 + 311)), (4, .int i4)]) E.1 E.2.1 dL_law_248 hl (by decide) rfl (fun ls hl => ?_)
  refine lv_aload_n E.1 E.2.1 dL_law_250 rfl (lv_at hl 4 rfl) ?_
  refine l_R (As := []) (rest := []) E hW (m_X7_thrown (sz := H.size) hct) rfl kw_1000 (⟨kw_1001, kw_1002, kw_8, kw_1003⟩ : wV yX7_thrown cX7_thrown 1 (some .int)) (⟨⟨by decide +kernel, by decide +kernel⟩, by decide +kernel⟩ : yOK yX7_thrown 0) ⟨rfl, rfl⟩ ⟨(Nat.le_of_ble_eq_true rfl), (Nat.le_of_ble_eq_true rfl)⟩ (lv_size hl) (Nat.le_of_ble_eq_true rfl) ⟨show cells + 1 ≤ 601024 by omega, show slots + 6 ≤ 7293034 by omega⟩ rfl dL_law_251 (fun H locs hW => ?_)
  refine W.eq (g2 := F0 m 254 ls [.int k]) rfl ?_
  refine lv_iload E.1 E.2.1 dL_law_254 (lv_at hl 1 rfl) ?_
  refine lv_icmp_eq (tgt := 261) E.1 E.2.1 dL_law_256 (by decide) (fun g => ?_) (fun g => absurd rfl g)
  refine lv_iload E.1 E.2.1 dL_law_261 (lv_at hl 1 rfl) ?_
  refine lv_if_ne (tgt := 278) E.1 E.2.1 dL_law_263 (by decide) (fun g => ?_) (fun g => ?_)
  · skip
    refine lv_goto (tgt := 1704) E.1 E.2.1 dL_law_278 (by decide) ?_
    exact kk (cells + 1) (slots + 6) _ _ _ (by omega) (by omega) hW (lv_sub hl [2, 3, 4, 5, 6] rfl)
  · have hk := hk g
    refine lv_aload_n E.1 E.2.1 dL_law_266 rfl (lv_at hl 5 rfl) ?_
    refine lv_iconst (v := (0 : Int32)) E.1 E.2.1 dL_law_267 (by decide) ?_
    refine r_lald E hW (q := 311) (n := 1) rfl vin01 dL_law_268 ?_
    refine W.eq (g2 := F0 m 269 ls [.long (ρ'.2 0 0)]) rfl ?_
    refine lv_iload E.1 E.2.1 dL_law_269 (lv_at hl 0 rfl) ?_
    refine lv_i2l E.1 E.2.1 dL_law_271 rfl ?_
    refine r_lc_eq E dL_law_272 dL_law_273 (tgt := 278) (by decide) (fun g2 => ?_) (fun g2 => absurd hk g2)
    refine lv_goto (tgt := 1704) E.1 E.2.1 dL_law_278 (by decide) ?_
    exact kk (cells + 1) (slots + 6) _ _ _ (by omega) (by omega) hW (lv_sub hl [2, 3, 4, 5, 6] rfl)
set_option maxHeartbeats 4000000 in
set_option maxRecDepth 100000 in
theorem L_errorOffset {p : Program} {l : Launch} {e : Env} {s : State} {m : MethodId} {args : Array Value} {below : List Frame} {meth : Method} {c : Code} {H : Heap} {locs : List Loc} {cells slots : Nat} {Q : State → Prop} {G : GP} {A0 : Nat → Prop} {σ τ ρ σ' τ' ρ' : St} {ls : Array Slot} {bs L : Nat} {xs : Nat → Int32} {i4 a1 a2 a3 a4 a5 : Int32} (E : En p m c s cL_law 7 RL G A0) (hN : Nc4 s) (hl9 : l.stackTraces = false) (hX : va_X bs L xs s s.heap) (hbl : bs < s.heap.size) (hbA : ¬ A0 bs) (hW : Wo G skA A0 s (jn σ τ ρ) H locs)
    (y1 : vp_in (i4 + 1) L ∧ xs (i4 + 1).toNatClampNeg = a1) (y2 : vp_in (i4 + 2) L ∧ xs (i4 + 2).toNatClampNeg = a2) (y3 : vp_in (i4 + 3) L ∧ xs (i4 + 3).toNatClampNeg = a3) (y4 : vp_in (i4 + 4) L ∧ xs (i4 + 4).toNatClampNeg = a4) (y5 : vp_in (i4 + 5) L ∧ xs (i4 + 5).toNatClampNeg = a5)
    (hl : lv_has ls 7 [(0, .ref bs), (1, .ref (G.2.2.2 + 0)), (2, .ref (G.2.2.2 + 258)), (3, .ref (G.2.2.2 + 311)), (4, .int i4)]) (hcs : cells + 8 ≤ 601024 ∧ slots + 48 ≤ 7293034) (h : dst (f_X6_errorOffset 0  σ) (f_X7_errorOffset 0  τ) ρ = some (σ', τ', ρ'))
    (kk : ∀ (cells1 slots1 : Nat) (H1 : Heap) (locs1 : List Loc) (ls1 : Array Slot), cells1 ≤ cells + 8 → slots1 ≤ slots + 48 → Wo G skA A0 s (jn σ' τ' ρ') H1 locs1 → lv_has ls1 7 [(0, .ref bs), (1, .ref (G.2.2.2 + 0)), (2, .ref (G.2.2.2 + 258)), (3, .ref (G.2.2.2 + 311)), (4, .int i4)] → W p l e room_1 s m args below meth c H1 locs1 cells1 slots1 Q (F0 m 1704 ls1 [])) :
    W p l e room_1 s m args below meth c H locs cells slots Q (F0 m 281 ls []) := by
  obtain ⟨v, hc6, hc7, rfl⟩ := dst_r h
  refine lv_aload_n E.1 E.2.1 dL_law_281 rfl (lv_at hl 1 rfl) ?_
  refine l_C (As := []) (rest := []) E hW (m_X6_errorOffset (sz := H.size) hc6) rfl kw_232 (⟨kw_233, kw_234, kw_1, kw_235⟩ : wV yX6_errorOffset cX6_errorOffset 1 (some .int)) (⟨⟨by decide +kernel, by decide +kernel⟩, by decide +kernel⟩ : yOK yX6_errorOffset 0) ⟨rfl, rfl⟩ ⟨(Nat.le_of_ble_eq_true rfl), (Nat.le_of_ble_eq_true rfl)⟩ (lv_size hl) (Nat.le_of_ble_eq_true rfl) ⟨show cells ≤ 601024 by omega, show slots ≤ 7293034 by omega⟩ rfl dL_law_282 (fun H locs hW => ?_)
  refine W.eq (g2 := F0 m 285 ls [.int v]) rfl ?_
  refine lv_aload_n E.1 E.2.1 dL_law_285 rfl (lv_at hl 2 rfl) ?_
  refine l_R (As := []) (rest := [.int v]) E hW (m_X7_errorOffset (sz := H.size) hc7) rfl kw_1192 (⟨kw_1193, kw_1194, kw_8, kw_1195⟩ : wV yX7_errorOffset cX7_errorOffset 1 (some .int)) (⟨⟨by decide +kernel, by decide +kernel⟩, by decide +kernel⟩ : yOK yX7_errorOffset 0) ⟨rfl, rfl⟩ ⟨(Nat.le_of_ble_eq_true rfl), (Nat.le_of_ble_eq_true rfl)⟩ (lv_size hl) (Nat.le_of_ble_eq_true rfl) ⟨show cells ≤ 601024 by omega, show slots ≤ 7293034 by omega⟩ rfl dL_law_286 (fun H locs hW => ?_)
  refine W.eq (g2 := F0 m 289 ls [.int v, .int v]) rfl ?_
  refine lv_icmp_eq (tgt := 1704) E.1 E.2.1 dL_law_289 (by decide) (fun g => ?_) (fun g => absurd rfl g)
  exact kk cells slots _ _ _ (by omega) (by omega) hW (lv_sub hl [0, 1, 2, 3, 4] rfl)
set_option maxHeartbeats 4000000 in
set_option maxRecDepth 100000 in
theorem L_defined {p : Program} {l : Launch} {e : Env} {s : State} {m : MethodId} {args : Array Value} {below : List Frame} {meth : Method} {c : Code} {H : Heap} {locs : List Loc} {cells slots : Nat} {Q : State → Prop} {G : GP} {A0 : Nat → Prop} {σ τ ρ σ' τ' ρ' : St} {ls : Array Slot} {bs L : Nat} {xs : Nat → Int32} {i4 a1 a2 a3 a4 a5 : Int32} (E : En p m c s cL_law 7 RL G A0) (hN : Nc4 s) (hl9 : l.stackTraces = false) (hX : va_X bs L xs s s.heap) (hbl : bs < s.heap.size) (hbA : ¬ A0 bs) (hW : Wo G skA A0 s (jn σ τ ρ) H locs)
    (y1 : vp_in (i4 + 1) L ∧ xs (i4 + 1).toNatClampNeg = a1) (y2 : vp_in (i4 + 2) L ∧ xs (i4 + 2).toNatClampNeg = a2) (y3 : vp_in (i4 + 3) L ∧ xs (i4 + 3).toNatClampNeg = a3) (y4 : vp_in (i4 + 4) L ∧ xs (i4 + 4).toNatClampNeg = a4) (y5 : vp_in (i4 + 5) L ∧ xs (i4 + 5).toNatClampNeg = a5)
    (hl : lv_has ls 7 [(0, .ref bs), (1, .ref (G.2.2.2 + 0)), (2, .ref (G.2.2.2 + 258)), (3, .ref (G.2.2.2 + 311)), (4, .int i4)]) (hcs : cells + 8 ≤ 601024 ∧ slots + 48 ≤ 7293034) (h : dst (f_X6_defined 0  σ) (f_X7_defined 0  τ) ρ = some (σ', τ', ρ'))
    (kk : ∀ (cells1 slots1 : Nat) (H1 : Heap) (locs1 : List Loc) (ls1 : Array Slot), cells1 ≤ cells + 8 → slots1 ≤ slots + 48 → Wo G skA A0 s (jn σ' τ' ρ') H1 locs1 → lv_has ls1 7 [(0, .ref bs), (1, .ref (G.2.2.2 + 0)), (2, .ref (G.2.2.2 + 258)), (3, .ref (G.2.2.2 + 311)), (4, .int i4)] → W p l e room_1 s m args below meth c H1 locs1 cells1 slots1 Q (F0 m 1704 ls1 [])) :
    W p l e room_1 s m args below meth c H locs cells slots Q (F0 m 294 ls []) := by
  obtain ⟨v, hc6, hc7, rfl⟩ := dst_r h
  refine lv_aload_n E.1 E.2.1 dL_law_294 rfl (lv_at hl 1 rfl) ?_
  refine l_C (As := []) (rest := []) E hW (m_X6_defined (sz := H.size) hc6) rfl kw_236 (⟨kw_237, kw_238, kw_1, kw_239⟩ : wV yX6_defined cX6_defined 1 (some .int)) (⟨⟨by decide +kernel, by decide +kernel⟩, by decide +kernel⟩ : yOK yX6_defined 0) ⟨rfl, rfl⟩ ⟨(Nat.le_of_ble_eq_true rfl), (Nat.le_of_ble_eq_true rfl)⟩ (lv_size hl) (Nat.le_of_ble_eq_true rfl) ⟨show cells ≤ 601024 by omega, show slots ≤ 7293034 by omega⟩ rfl dL_law_295 (fun H locs hW => ?_)
  refine W.eq (g2 := F0 m 298 ls [.int v]) rfl ?_
  refine lv_aload_n E.1 E.2.1 dL_law_298 rfl (lv_at hl 2 rfl) ?_
  refine l_R (As := []) (rest := [.int v]) E hW (m_X7_defined (sz := H.size) hc7) rfl kw_1196 (⟨kw_1197, kw_1198, kw_8, kw_1199⟩ : wV yX7_defined cX7_defined 1 (some .int)) (⟨⟨by decide +kernel, by decide +kernel⟩, by decide +kernel⟩ : yOK yX7_defined 0) ⟨rfl, rfl⟩ ⟨(Nat.le_of_ble_eq_true rfl), (Nat.le_of_ble_eq_true rfl)⟩ (lv_size hl) (Nat.le_of_ble_eq_true rfl) ⟨show cells ≤ 601024 by omega, show slots ≤ 7293034 by omega⟩ rfl dL_law_299 (fun H locs hW => ?_)
  refine W.eq (g2 := F0 m 302 ls [.int v, .int v]) rfl ?_
  refine lv_icmp_eq (tgt := 1704) E.1 E.2.1 dL_law_302 (by decide) (fun g => ?_) (fun g => absurd rfl g)
  exact kk cells slots _ _ _ (by omega) (by omega) hW (lv_sub hl [0, 1, 2, 3, 4] rfl)
set_option maxHeartbeats 4000000 in
set_option maxRecDepth 100000 in
theorem L_coefficient {p : Program} {l : Launch} {e : Env} {s : State} {m : MethodId} {args : Array Value} {below : List Frame} {meth : Method} {c : Code} {H : Heap} {locs : List Loc} {cells slots : Nat} {Q : State → Prop} {G : GP} {A0 : Nat → Prop} {σ τ ρ σ' τ' ρ' : St} {ls : Array Slot} {bs L : Nat} {xs : Nat → Int32} {i4 a1 a2 a3 a4 a5 : Int32} (E : En p m c s cL_law 7 RL G A0) (hN : Nc4 s) (hl9 : l.stackTraces = false) (hX : va_X bs L xs s s.heap) (hbl : bs < s.heap.size) (hbA : ¬ A0 bs) (hW : Wo G skA A0 s (jn σ τ ρ) H locs)
    (y1 : vp_in (i4 + 1) L ∧ xs (i4 + 1).toNatClampNeg = a1) (y2 : vp_in (i4 + 2) L ∧ xs (i4 + 2).toNatClampNeg = a2) (y3 : vp_in (i4 + 3) L ∧ xs (i4 + 3).toNatClampNeg = a3) (y4 : vp_in (i4 + 4) L ∧ xs (i4 + 4).toNatClampNeg = a4) (y5 : vp_in (i4 + 5) L ∧ xs (i4 + 5).toNatClampNeg = a5)
    (hl : lv_has ls 7 [(0, .ref bs), (1, .ref (G.2.2.2 + 0)), (2, .ref (G.2.2.2 + 258)), (3, .ref (G.2.2.2 + 311)), (4, .int i4)]) (hcs : cells + 8 ≤ 601024 ∧ slots + 48 ≤ 7293034) (h : wst (f_L_coefficient a1 a2 a3 σ ρ) (f_X7_coefficient 0 a1 a2 a3 τ) Int32.toInt64 = some (σ', τ', ρ'))
    (kk : ∀ (cells1 slots1 : Nat) (H1 : Heap) (locs1 : List Loc) (ls1 : Array Slot), cells1 ≤ cells + 8 → slots1 ≤ slots + 48 → Wo G skA A0 s (jn σ' τ' ρ') H1 locs1 → lv_has ls1 7 [(0, .ref bs), (1, .ref (G.2.2.2 + 0)), (2, .ref (G.2.2.2 + 258)), (3, .ref (G.2.2.2 + 311)), (4, .int i4)] → W p l e room_1 s m args below meth c H1 locs1 cells1 slots1 Q (F0 m 1704 ls1 [])) :
    W p l e room_1 s m args below meth c H locs cells slots Q (F0 m 307 ls []) := by
  obtain ⟨k, v, τ1, hc6, hc7, hct, hk⟩ := wst_r h
  refine lv_aload_n E.1 E.2.1 dL_law_307 rfl (lv_at hl 1 rfl) ?_
  refine lv_aload_n E.1 E.2.1 dL_law_308 rfl (lv_at hl 0 rfl) ?_
  refine lv_iload E.1 E.2.1 dL_law_309 (lv_at hl 4 rfl) ?_
  refine lv_iconst (v := (1 : Int32)) E.1 E.2.1 dL_law_311 (by decide) ?_
  refine lv_iadd E.1 E.2.1 dL_law_312 ?_
  refine va_sld E.1 E.2.1 hX hbl hbA hW.2.1 y1.1 dL_law_313 ?_
  rw [y1.2]
  refine lv_aload_n E.1 E.2.1 dL_law_314 rfl (lv_at hl 0 rfl) ?_
  refine lv_iload E.1 E.2.1 dL_law_315 (lv_at hl 4 rfl) ?_
  refine lv_iconst (v := (2 : Int32)) E.1 E.2.1 dL_law_317 (by decide) ?_
  refine lv_iadd E.1 E.2.1 dL_law_318 ?_
  refine va_sld E.1 E.2.1 hX hbl hbA hW.2.1 y2.1 dL_law_319 ?_
  rw [y2.2]
  refine lv_aload_n E.1 E.2.1 dL_law_320 rfl (lv_at hl 0 rfl) ?_
  refine lv_iload E.1 E.2.1 dL_law_321 (lv_at hl 4 rfl) ?_
  refine lv_iconst (v := (3 : Int32)) E.1 E.2.1 dL_law_323 (by decide) ?_
  refine lv_iadd E.1 E.2.1 dL_law_324 ?_
  refine va_sld E.1 E.2.1 hX hbl hbA hW.2.1 y3.1 dL_law_325 ?_
  rw [y3.2]
  refine lv_aload_n E.1 E.2.1 dL_law_326 rfl (lv_at hl 3 rfl) ?_
  refine c_SW (As := [.ref (G.2.2.2 + 0), .int a1, .int a2, .int a3, .ref (G.2.2.2 + 311)]) (rest := []) E hN hW (m_L_coefficient (sz := H.size) (τ := τ) hl9 hc6) kw_632 ⟨kw_633, ini_L, kw_634⟩ (⟨⟨by decide +kernel, by decide +kernel⟩, by decide +kernel⟩ : yOK yL_coefficient 5) ⟨rfl, rfl⟩ ⟨(Nat.le_of_ble_eq_true rfl), (Nat.le_of_ble_eq_true rfl)⟩ (lv_size hl) (Nat.le_of_ble_eq_true rfl) ⟨show cells + 3 ≤ 601024 by omega, show slots + 18 ≤ 7293034 by omega⟩ rfl dL_law_327 (fun H locs hW => ?_)
  refine W.eq (g2 := F0 m 330 ls [.int k]) rfl ?_
  refine lv_istore (lv' := [(5, .int k), (0, .ref bs), (1, .ref (G.2.2.2 + 0)), (2, .ref (G.2.2.2 + 258)), (3, .ref (G.2.2.2 + 311)), (4, .int i4)]) E.1 E.2.1 dL_law_330 hl (by decide) rfl (fun ls hl => ?_)
  refine lv_aload_n E.1 E.2.1 dL_law_332 rfl (lv_at hl 3 rfl) ?_
  refine lv_aload_n E.1 E.2.1 dL_law_333 rfl (lv_at hl 1 rfl) ?_
  refine lv_iload E.1 E.2.1 dL_law_334 (lv_at hl 5 rfl) ?_
  refine lv_iconst (v := (1 : Int32)) E.1 E.2.1 dL_law_336 (by decide) ?_
  refine lv_iadd E.1 E.2.1 dL_law_337 ?_
  refine va_sld E.1 E.2.1 hX hbl hbA hW.2.1 y1.1 dL_law_338 ?_
  rw [y1.2]
  refine lv_aload_n E.1 E.2.1 dL_law_339 rfl (lv_at hl 1 rfl) ?_
  refine lv_iload E.1 E.2.1 dL_law_340 (lv_at hl 5 rfl) ?_
  refine lv_iconst (v := (2 : Int32)) E.1 E.2.1 dL_law_342 (by decide) ?_
  refine lv_iadd E.1 E.2.1 dL_law_343 ?_
  refine va_sld E.1 E.2.1 hX hbl hbA hW.2.1 y2.1 dL_law_344 ?_
  rw [y2.2]
  refine lv_aload_n E.1 E.2.1 dL_law_345 rfl (lv_at hl 1 rfl) ?_
  refine lv_iload E.1 E.2.1 dL_law_346 (lv_at hl 5 rfl) ?_
  refine lv_iconst (v := (3 : Int32)) E.1 E.2.1 dL_law_348 (by decide) ?_
  refine lv_iadd E.1 E.2.1 dL_law_349 ?_
  refine va_sld E.1 E.2.1 hX hbl hbA hW.2.1 y3.1 dL_law_350 ?_
  rw [y3.2]
  refine l_R (As := [.int a1, .int a2, .int a3]) (rest := []) E hW (m_X7_coefficient (sz := H.size) hc7) rfl kw_1200 (⟨kw_1201, kw_1202, kw_8, kw_1203⟩ : wV yX7_coefficient cX7_coefficient 4 (some .int)) (⟨⟨by decide +kernel, by decide +kernel⟩, by decide +kernel⟩ : yOK yX7_coefficient 3) ⟨rfl, rfl⟩ ⟨(Nat.le_of_ble_eq_true rfl), (Nat.le_of_ble_eq_true rfl)⟩ (lv_size hl) (Nat.le_of_ble_eq_true rfl) ⟨show cells + 3 ≤ 601024 by omega, show slots + 18 ≤ 7293034 by omega⟩ rfl dL_law_351 (fun H locs hW => ?_)
  refine W.eq (g2 := F0 m 354 ls [.int v]) rfl ?_
  refine lv_istore (lv' := [(6, .int v), (5, .int k), (0, .ref bs), (1, .ref (G.2.2.2 + 0)), (2, .ref (G.2.2.2 + 258)), (3, .ref (G.2.2.2 + 311)), (4, .int i4)]) E.1 E.2.1 dL_law_354 hl (by decide) rfl (fun ls hl => ?_)
  refine lv_aload_n E.1 E.2.1 dL_law_356 rfl (lv_at hl 4 rfl) ?_
  refine l_R (As := []) (rest := []) E hW (m_X7_thrown (sz := H.size) hct) rfl kw_1000 (⟨kw_1001, kw_1002, kw_8, kw_1003⟩ : wV yX7_thrown cX7_thrown 1 (some .int)) (⟨⟨by decide +kernel, by decide +kernel⟩, by decide +kernel⟩ : yOK yX7_thrown 0) ⟨rfl, rfl⟩ ⟨(Nat.le_of_ble_eq_true rfl), (Nat.le_of_ble_eq_true rfl)⟩ (lv_size hl) (Nat.le_of_ble_eq_true rfl) ⟨show cells + 3 ≤ 601024 by omega, show slots + 18 ≤ 7293034 by omega⟩ rfl dL_law_357 (fun H locs hW => ?_)
  refine W.eq (g2 := F0 m 360 ls [.int k]) rfl ?_
  refine lv_iload E.1 E.2.1 dL_law_360 (lv_at hl 1 rfl) ?_
  refine lv_icmp_eq (tgt := 367) E.1 E.2.1 dL_law_362 (by decide) (fun g => ?_) (fun g => absurd rfl g)
  refine lv_iload E.1 E.2.1 dL_law_367 (lv_at hl 1 rfl) ?_
  refine lv_if_ne (tgt := 384) E.1 E.2.1 dL_law_369 (by decide) (fun g => ?_) (fun g => ?_)
  · skip
    refine lv_goto (tgt := 1704) E.1 E.2.1 dL_law_384 (by decide) ?_
    exact kk (cells + 3) (slots + 18) _ _ _ (by omega) (by omega) hW (lv_sub hl [2, 3, 4, 5, 6] rfl)
  · have hk := hk g
    refine lv_aload_n E.1 E.2.1 dL_law_372 rfl (lv_at hl 5 rfl) ?_
    refine lv_iconst (v := (0 : Int32)) E.1 E.2.1 dL_law_373 (by decide) ?_
    refine r_lald E hW (q := 311) (n := 1) rfl vin01 dL_law_374 ?_
    refine W.eq (g2 := F0 m 375 ls [.long (ρ'.2 0 0)]) rfl ?_
    refine lv_iload E.1 E.2.1 dL_law_375 (lv_at hl 0 rfl) ?_
    refine lv_i2l E.1 E.2.1 dL_law_377 rfl ?_
    refine r_lc_eq E dL_law_378 dL_law_379 (tgt := 384) (by decide) (fun g2 => ?_) (fun g2 => absurd hk g2)
    refine lv_goto (tgt := 1704) E.1 E.2.1 dL_law_384 (by decide) ?_
    exact kk (cells + 3) (slots + 18) _ _ _ (by omega) (by omega) hW (lv_sub hl [2, 3, 4, 5, 6] rfl)
set_option maxHeartbeats 4000000 in
set_option maxRecDepth 100000 in
theorem L_remainder {p : Program} {l : Launch} {e : Env} {s : State} {m : MethodId} {args : Array Value} {below : List Frame} {meth : Method} {c : Code} {H : Heap} {locs : List Loc} {cells slots : Nat} {Q : State → Prop} {G : GP} {A0 : Nat → Prop} {σ τ ρ σ' τ' ρ' : St} {ls : Array Slot} {bs L : Nat} {xs : Nat → Int32} {i4 a1 a2 a3 a4 a5 : Int32} (E : En p m c s cL_law 7 RL G A0) (hN : Nc4 s) (hl9 : l.stackTraces = false) (hX : va_X bs L xs s s.heap) (hbl : bs < s.heap.size) (hbA : ¬ A0 bs) (hW : Wo G skA A0 s (jn σ τ ρ) H locs)
    (y1 : vp_in (i4 + 1) L ∧ xs (i4 + 1).toNatClampNeg = a1) (y2 : vp_in (i4 + 2) L ∧ xs (i4 + 2).toNatClampNeg = a2) (y3 : vp_in (i4 + 3) L ∧ xs (i4 + 3).toNatClampNeg = a3) (y4 : vp_in (i4 + 4) L ∧ xs (i4 + 4).toNatClampNeg = a4) (y5 : vp_in (i4 + 5) L ∧ xs (i4 + 5).toNatClampNeg = a5)
    (hl : lv_has ls 7 [(0, .ref bs), (1, .ref (G.2.2.2 + 0)), (2, .ref (G.2.2.2 + 258)), (3, .ref (G.2.2.2 + 311)), (4, .int i4)]) (hcs : cells + 8 ≤ 601024 ∧ slots + 48 ≤ 7293034) (h : wst (f_L_remainder a1 a2 σ ρ) (f_X7_remainder 0 a1 a2 τ) Int32.toInt64 = some (σ', τ', ρ'))
    (kk : ∀ (cells1 slots1 : Nat) (H1 : Heap) (locs1 : List Loc) (ls1 : Array Slot), cells1 ≤ cells + 8 → slots1 ≤ slots + 48 → Wo G skA A0 s (jn σ' τ' ρ') H1 locs1 → lv_has ls1 7 [(0, .ref bs), (1, .ref (G.2.2.2 + 0)), (2, .ref (G.2.2.2 + 258)), (3, .ref (G.2.2.2 + 311)), (4, .int i4)] → W p l e room_1 s m args below meth c H1 locs1 cells1 slots1 Q (F0 m 1704 ls1 [])) :
    W p l e room_1 s m args below meth c H locs cells slots Q (F0 m 387 ls []) := by
  obtain ⟨k, v, τ1, hc6, hc7, hct, hk⟩ := wst_r h
  refine lv_aload_n E.1 E.2.1 dL_law_387 rfl (lv_at hl 1 rfl) ?_
  refine lv_aload_n E.1 E.2.1 dL_law_388 rfl (lv_at hl 0 rfl) ?_
  refine lv_iload E.1 E.2.1 dL_law_389 (lv_at hl 4 rfl) ?_
  refine lv_iconst (v := (1 : Int32)) E.1 E.2.1 dL_law_391 (by decide) ?_
  refine lv_iadd E.1 E.2.1 dL_law_392 ?_
  refine va_sld E.1 E.2.1 hX hbl hbA hW.2.1 y1.1 dL_law_393 ?_
  rw [y1.2]
  refine lv_aload_n E.1 E.2.1 dL_law_394 rfl (lv_at hl 0 rfl) ?_
  refine lv_iload E.1 E.2.1 dL_law_395 (lv_at hl 4 rfl) ?_
  refine lv_iconst (v := (2 : Int32)) E.1 E.2.1 dL_law_397 (by decide) ?_
  refine lv_iadd E.1 E.2.1 dL_law_398 ?_
  refine va_sld E.1 E.2.1 hX hbl hbA hW.2.1 y2.1 dL_law_399 ?_
  rw [y2.2]
  refine lv_aload_n E.1 E.2.1 dL_law_400 rfl (lv_at hl 3 rfl) ?_
  refine c_SW (As := [.ref (G.2.2.2 + 0), .int a1, .int a2, .ref (G.2.2.2 + 311)]) (rest := []) E hN hW (m_L_remainder (sz := H.size) (τ := τ) hl9 hc6) kw_689 ⟨kw_690, ini_L, kw_691⟩ (⟨⟨by decide +kernel, by decide +kernel⟩, by decide +kernel⟩ : yOK yL_remainder 4) ⟨rfl, rfl⟩ ⟨(Nat.le_of_ble_eq_true rfl), (Nat.le_of_ble_eq_true rfl)⟩ (lv_size hl) (Nat.le_of_ble_eq_true rfl) ⟨show cells + 3 ≤ 601024 by omega, show slots + 18 ≤ 7293034 by omega⟩ rfl dL_law_401 (fun H locs hW => ?_)
  refine W.eq (g2 := F0 m 404 ls [.int k]) rfl ?_
  refine lv_istore (lv' := [(5, .int k), (0, .ref bs), (1, .ref (G.2.2.2 + 0)), (2, .ref (G.2.2.2 + 258)), (3, .ref (G.2.2.2 + 311)), (4, .int i4)]) E.1 E.2.1 dL_law_404 hl (by decide) rfl (fun ls hl => ?_)
  refine lv_aload_n E.1 E.2.1 dL_law_406 rfl (lv_at hl 3 rfl) ?_
  refine lv_aload_n E.1 E.2.1 dL_law_407 rfl (lv_at hl 1 rfl) ?_
  refine lv_iload E.1 E.2.1 dL_law_408 (lv_at hl 5 rfl) ?_
  refine lv_iconst (v := (1 : Int32)) E.1 E.2.1 dL_law_410 (by decide) ?_
  refine lv_iadd E.1 E.2.1 dL_law_411 ?_
  refine va_sld E.1 E.2.1 hX hbl hbA hW.2.1 y1.1 dL_law_412 ?_
  rw [y1.2]
  refine lv_aload_n E.1 E.2.1 dL_law_413 rfl (lv_at hl 1 rfl) ?_
  refine lv_iload E.1 E.2.1 dL_law_414 (lv_at hl 5 rfl) ?_
  refine lv_iconst (v := (2 : Int32)) E.1 E.2.1 dL_law_416 (by decide) ?_
  refine lv_iadd E.1 E.2.1 dL_law_417 ?_
  refine va_sld E.1 E.2.1 hX hbl hbA hW.2.1 y2.1 dL_law_418 ?_
  rw [y2.2]
  refine l_R (As := [.int a1, .int a2]) (rest := []) E hW (m_X7_remainder (sz := H.size) hc7) rfl kw_1215 (⟨kw_1216, kw_1217, kw_8, kw_1218⟩ : wV yX7_remainder cX7_remainder 3 (some .int)) (⟨⟨by decide +kernel, by decide +kernel⟩, by decide +kernel⟩ : yOK yX7_remainder 2) ⟨rfl, rfl⟩ ⟨(Nat.le_of_ble_eq_true rfl), (Nat.le_of_ble_eq_true rfl)⟩ (lv_size hl) (Nat.le_of_ble_eq_true rfl) ⟨show cells + 3 ≤ 601024 by omega, show slots + 18 ≤ 7293034 by omega⟩ rfl dL_law_419 (fun H locs hW => ?_)
  refine W.eq (g2 := F0 m 422 ls [.int v]) rfl ?_
  refine lv_istore (lv' := [(6, .int v), (5, .int k), (0, .ref bs), (1, .ref (G.2.2.2 + 0)), (2, .ref (G.2.2.2 + 258)), (3, .ref (G.2.2.2 + 311)), (4, .int i4)]) E.1 E.2.1 dL_law_422 hl (by decide) rfl (fun ls hl => ?_)
  refine lv_aload_n E.1 E.2.1 dL_law_424 rfl (lv_at hl 4 rfl) ?_
  refine l_R (As := []) (rest := []) E hW (m_X7_thrown (sz := H.size) hct) rfl kw_1000 (⟨kw_1001, kw_1002, kw_8, kw_1003⟩ : wV yX7_thrown cX7_thrown 1 (some .int)) (⟨⟨by decide +kernel, by decide +kernel⟩, by decide +kernel⟩ : yOK yX7_thrown 0) ⟨rfl, rfl⟩ ⟨(Nat.le_of_ble_eq_true rfl), (Nat.le_of_ble_eq_true rfl)⟩ (lv_size hl) (Nat.le_of_ble_eq_true rfl) ⟨show cells + 3 ≤ 601024 by omega, show slots + 18 ≤ 7293034 by omega⟩ rfl dL_law_425 (fun H locs hW => ?_)
  refine W.eq (g2 := F0 m 428 ls [.int k]) rfl ?_
  refine lv_iload E.1 E.2.1 dL_law_428 (lv_at hl 1 rfl) ?_
  refine lv_icmp_eq (tgt := 435) E.1 E.2.1 dL_law_430 (by decide) (fun g => ?_) (fun g => absurd rfl g)
  refine lv_iload E.1 E.2.1 dL_law_435 (lv_at hl 1 rfl) ?_
  refine lv_if_ne (tgt := 452) E.1 E.2.1 dL_law_437 (by decide) (fun g => ?_) (fun g => ?_)
  · skip
    refine lv_goto (tgt := 1704) E.1 E.2.1 dL_law_452 (by decide) ?_
    exact kk (cells + 3) (slots + 18) _ _ _ (by omega) (by omega) hW (lv_sub hl [2, 3, 4, 5, 6] rfl)
  · have hk := hk g
    refine lv_aload_n E.1 E.2.1 dL_law_440 rfl (lv_at hl 5 rfl) ?_
    refine lv_iconst (v := (0 : Int32)) E.1 E.2.1 dL_law_441 (by decide) ?_
    refine r_lald E hW (q := 311) (n := 1) rfl vin01 dL_law_442 ?_
    refine W.eq (g2 := F0 m 443 ls [.long (ρ'.2 0 0)]) rfl ?_
    refine lv_iload E.1 E.2.1 dL_law_443 (lv_at hl 0 rfl) ?_
    refine lv_i2l E.1 E.2.1 dL_law_445 rfl ?_
    refine r_lc_eq E dL_law_446 dL_law_447 (tgt := 452) (by decide) (fun g2 => ?_) (fun g2 => absurd hk g2)
    refine lv_goto (tgt := 1704) E.1 E.2.1 dL_law_452 (by decide) ?_
    exact kk (cells + 3) (slots + 18) _ _ _ (by omega) (by omega) hW (lv_sub hl [2, 3, 4, 5, 6] rfl)
set_option maxHeartbeats 4000000 in
set_option maxRecDepth 100000 in
theorem L_bound {p : Program} {l : Launch} {e : Env} {s : State} {m : MethodId} {args : Array Value} {below : List Frame} {meth : Method} {c : Code} {H : Heap} {locs : List Loc} {cells slots : Nat} {Q : State → Prop} {G : GP} {A0 : Nat → Prop} {σ τ ρ σ' τ' ρ' : St} {ls : Array Slot} {bs L : Nat} {xs : Nat → Int32} {i4 a1 a2 a3 a4 a5 : Int32} (E : En p m c s cL_law 7 RL G A0) (hN : Nc4 s) (hl9 : l.stackTraces = false) (hX : va_X bs L xs s s.heap) (hbl : bs < s.heap.size) (hbA : ¬ A0 bs) (hW : Wo G skA A0 s (jn σ τ ρ) H locs)
    (y1 : vp_in (i4 + 1) L ∧ xs (i4 + 1).toNatClampNeg = a1) (y2 : vp_in (i4 + 2) L ∧ xs (i4 + 2).toNatClampNeg = a2) (y3 : vp_in (i4 + 3) L ∧ xs (i4 + 3).toNatClampNeg = a3) (y4 : vp_in (i4 + 4) L ∧ xs (i4 + 4).toNatClampNeg = a4) (y5 : vp_in (i4 + 5) L ∧ xs (i4 + 5).toNatClampNeg = a5)
    (hl : lv_has ls 7 [(0, .ref bs), (1, .ref (G.2.2.2 + 0)), (2, .ref (G.2.2.2 + 258)), (3, .ref (G.2.2.2 + 311)), (4, .int i4)]) (hcs : cells + 8 ≤ 601024 ∧ slots + 48 ≤ 7293034) (h : wst (f_L_bound a1 a2 σ ρ) (f_X7_bound 0 a1 a2 τ) Int32.toInt64 = some (σ', τ', ρ'))
    (kk : ∀ (cells1 slots1 : Nat) (H1 : Heap) (locs1 : List Loc) (ls1 : Array Slot), cells1 ≤ cells + 8 → slots1 ≤ slots + 48 → Wo G skA A0 s (jn σ' τ' ρ') H1 locs1 → lv_has ls1 7 [(0, .ref bs), (1, .ref (G.2.2.2 + 0)), (2, .ref (G.2.2.2 + 258)), (3, .ref (G.2.2.2 + 311)), (4, .int i4)] → W p l e room_1 s m args below meth c H1 locs1 cells1 slots1 Q (F0 m 1704 ls1 [])) :
    W p l e room_1 s m args below meth c H locs cells slots Q (F0 m 455 ls []) := by
  obtain ⟨k, v, τ1, hc6, hc7, hct, hk⟩ := wst_r h
  refine lv_aload_n E.1 E.2.1 dL_law_455 rfl (lv_at hl 1 rfl) ?_
  refine lv_aload_n E.1 E.2.1 dL_law_456 rfl (lv_at hl 0 rfl) ?_
  refine lv_iload E.1 E.2.1 dL_law_457 (lv_at hl 4 rfl) ?_
  refine lv_iconst (v := (1 : Int32)) E.1 E.2.1 dL_law_459 (by decide) ?_
  refine lv_iadd E.1 E.2.1 dL_law_460 ?_
  refine va_sld E.1 E.2.1 hX hbl hbA hW.2.1 y1.1 dL_law_461 ?_
  rw [y1.2]
  refine lv_aload_n E.1 E.2.1 dL_law_462 rfl (lv_at hl 0 rfl) ?_
  refine lv_iload E.1 E.2.1 dL_law_463 (lv_at hl 4 rfl) ?_
  refine lv_iconst (v := (2 : Int32)) E.1 E.2.1 dL_law_465 (by decide) ?_
  refine lv_iadd E.1 E.2.1 dL_law_466 ?_
  refine va_sld E.1 E.2.1 hX hbl hbA hW.2.1 y2.1 dL_law_467 ?_
  rw [y2.2]
  refine lv_aload_n E.1 E.2.1 dL_law_468 rfl (lv_at hl 3 rfl) ?_
  refine c_SW (As := [.ref (G.2.2.2 + 0), .int a1, .int a2, .ref (G.2.2.2 + 311)]) (rest := []) E hN hW (m_L_bound (sz := H.size) (τ := τ) hl9 hc6) kw_700 ⟨kw_701, ini_L, kw_702⟩ (⟨⟨by decide +kernel, by decide +kernel⟩, by decide +kernel⟩ : yOK yL_bound 4) ⟨rfl, rfl⟩ ⟨(Nat.le_of_ble_eq_true rfl), (Nat.le_of_ble_eq_true rfl)⟩ (lv_size hl) (Nat.le_of_ble_eq_true rfl) ⟨show cells + 3 ≤ 601024 by omega, show slots + 18 ≤ 7293034 by omega⟩ rfl dL_law_469 (fun H locs hW => ?_)
  refine W.eq (g2 := F0 m 472 ls [.int k]) rfl ?_
  refine lv_istore (lv' := [(5, .int k), (0, .ref bs), (1, .ref (G.2.2.2 + 0)), (2, .ref (G.2.2.2 + 258)), (3, .ref (G.2.2.2 + 311)), (4, .int i4)]) E.1 E.2.1 dL_law_472 hl (by decide) rfl (fun ls hl => ?_)
  refine lv_aload_n E.1 E.2.1 dL_law_474 rfl (lv_at hl 3 rfl) ?_
  refine lv_aload_n E.1 E.2.1 dL_law_475 rfl (lv_at hl 1 rfl) ?_
  refine lv_iload E.1 E.2.1 dL_law_476 (lv_at hl 5 rfl) ?_
  refine lv_iconst (v := (1 : Int32)) E.1 E.2.1 dL_law_478 (by decide) ?_
  refine lv_iadd E.1 E.2.1 dL_law_479 ?_
  refine va_sld E.1 E.2.1 hX hbl hbA hW.2.1 y1.1 dL_law_480 ?_
  rw [y1.2]
  refine lv_aload_n E.1 E.2.1 dL_law_481 rfl (lv_at hl 1 rfl) ?_
  refine lv_iload E.1 E.2.1 dL_law_482 (lv_at hl 5 rfl) ?_
  refine lv_iconst (v := (2 : Int32)) E.1 E.2.1 dL_law_484 (by decide) ?_
  refine lv_iadd E.1 E.2.1 dL_law_485 ?_
  refine va_sld E.1 E.2.1 hX hbl hbA hW.2.1 y2.1 dL_law_486 ?_
  rw [y2.2]
  refine l_R (As := [.int a1, .int a2]) (rest := []) E hW (m_X7_bound (sz := H.size) hc7) rfl kw_1219 (⟨kw_1220, kw_1221, kw_8, kw_1222⟩ : wV yX7_bound cX7_bound 3 (some .int)) (⟨⟨by decide +kernel, by decide +kernel⟩, by decide +kernel⟩ : yOK yX7_bound 2) ⟨rfl, rfl⟩ ⟨(Nat.le_of_ble_eq_true rfl), (Nat.le_of_ble_eq_true rfl)⟩ (lv_size hl) (Nat.le_of_ble_eq_true rfl) ⟨show cells + 3 ≤ 601024 by omega, show slots + 18 ≤ 7293034 by omega⟩ rfl dL_law_487 (fun H locs hW => ?_)
  refine W.eq (g2 := F0 m 490 ls [.int v]) rfl ?_
  refine lv_istore (lv' := [(6, .int v), (5, .int k), (0, .ref bs), (1, .ref (G.2.2.2 + 0)), (2, .ref (G.2.2.2 + 258)), (3, .ref (G.2.2.2 + 311)), (4, .int i4)]) E.1 E.2.1 dL_law_490 hl (by decide) rfl (fun ls hl => ?_)
  refine lv_aload_n E.1 E.2.1 dL_law_492 rfl (lv_at hl 4 rfl) ?_
  refine l_R (As := []) (rest := []) E hW (m_X7_thrown (sz := H.size) hct) rfl kw_1000 (⟨kw_1001, kw_1002, kw_8, kw_1003⟩ : wV yX7_thrown cX7_thrown 1 (some .int)) (⟨⟨by decide +kernel, by decide +kernel⟩, by decide +kernel⟩ : yOK yX7_thrown 0) ⟨rfl, rfl⟩ ⟨(Nat.le_of_ble_eq_true rfl), (Nat.le_of_ble_eq_true rfl)⟩ (lv_size hl) (Nat.le_of_ble_eq_true rfl) ⟨show cells + 3 ≤ 601024 by omega, show slots + 18 ≤ 7293034 by omega⟩ rfl dL_law_493 (fun H locs hW => ?_)
  refine W.eq (g2 := F0 m 496 ls [.int k]) rfl ?_
  refine lv_iload E.1 E.2.1 dL_law_496 (lv_at hl 1 rfl) ?_
  refine lv_icmp_eq (tgt := 503) E.1 E.2.1 dL_law_498 (by decide) (fun g => ?_) (fun g => absurd rfl g)
  refine lv_iload E.1 E.2.1 dL_law_503 (lv_at hl 1 rfl) ?_
  refine lv_if_ne (tgt := 520) E.1 E.2.1 dL_law_505 (by decide) (fun g => ?_) (fun g => ?_)
  · skip
    refine lv_goto (tgt := 1704) E.1 E.2.1 dL_law_520 (by decide) ?_
    exact kk (cells + 3) (slots + 18) _ _ _ (by omega) (by omega) hW (lv_sub hl [2, 3, 4, 5, 6] rfl)
  · have hk := hk g
    refine lv_aload_n E.1 E.2.1 dL_law_508 rfl (lv_at hl 5 rfl) ?_
    refine lv_iconst (v := (0 : Int32)) E.1 E.2.1 dL_law_509 (by decide) ?_
    refine r_lald E hW (q := 311) (n := 1) rfl vin01 dL_law_510 ?_
    refine W.eq (g2 := F0 m 511 ls [.long (ρ'.2 0 0)]) rfl ?_
    refine lv_iload E.1 E.2.1 dL_law_511 (lv_at hl 0 rfl) ?_
    refine lv_i2l E.1 E.2.1 dL_law_513 rfl ?_
    refine r_lc_eq E dL_law_514 dL_law_515 (tgt := 520) (by decide) (fun g2 => ?_) (fun g2 => absurd hk g2)
    refine lv_goto (tgt := 1704) E.1 E.2.1 dL_law_520 (by decide) ?_
    exact kk (cells + 3) (slots + 18) _ _ _ (by omega) (by omega) hW (lv_sub hl [2, 3, 4, 5, 6] rfl)
set_option maxHeartbeats 4000000 in
set_option maxRecDepth 100000 in
theorem L_value {p : Program} {l : Launch} {e : Env} {s : State} {m : MethodId} {args : Array Value} {below : List Frame} {meth : Method} {c : Code} {H : Heap} {locs : List Loc} {cells slots : Nat} {Q : State → Prop} {G : GP} {A0 : Nat → Prop} {σ τ ρ σ' τ' ρ' : St} {ls : Array Slot} {bs L : Nat} {xs : Nat → Int32} {i4 a1 a2 a3 a4 a5 : Int32} (E : En p m c s cL_law 7 RL G A0) (hN : Nc4 s) (hl9 : l.stackTraces = false) (hX : va_X bs L xs s s.heap) (hbl : bs < s.heap.size) (hbA : ¬ A0 bs) (hW : Wo G skA A0 s (jn σ τ ρ) H locs)
    (y1 : vp_in (i4 + 1) L ∧ xs (i4 + 1).toNatClampNeg = a1) (y2 : vp_in (i4 + 2) L ∧ xs (i4 + 2).toNatClampNeg = a2) (y3 : vp_in (i4 + 3) L ∧ xs (i4 + 3).toNatClampNeg = a3) (y4 : vp_in (i4 + 4) L ∧ xs (i4 + 4).toNatClampNeg = a4) (y5 : vp_in (i4 + 5) L ∧ xs (i4 + 5).toNatClampNeg = a5)
    (hl : lv_has ls 7 [(0, .ref bs), (1, .ref (G.2.2.2 + 0)), (2, .ref (G.2.2.2 + 258)), (3, .ref (G.2.2.2 + 311)), (4, .int i4)]) (hcs : cells + 8 ≤ 601024 ∧ slots + 48 ≤ 7293034) (h : wst (f_L_value a1 a2 a3 a4 σ ρ) (f_X7_value 0 a1 a2 a3 a4 τ) Int32.toInt64 = some (σ', τ', ρ'))
    (kk : ∀ (cells1 slots1 : Nat) (H1 : Heap) (locs1 : List Loc) (ls1 : Array Slot), cells1 ≤ cells + 8 → slots1 ≤ slots + 48 → Wo G skA A0 s (jn σ' τ' ρ') H1 locs1 → lv_has ls1 7 [(0, .ref bs), (1, .ref (G.2.2.2 + 0)), (2, .ref (G.2.2.2 + 258)), (3, .ref (G.2.2.2 + 311)), (4, .int i4)] → W p l e room_1 s m args below meth c H1 locs1 cells1 slots1 Q (F0 m 1704 ls1 [])) :
    W p l e room_1 s m args below meth c H locs cells slots Q (F0 m 523 ls []) := by
  obtain ⟨k, v, τ1, hc6, hc7, hct, hk⟩ := wst_r h
  refine lv_aload_n E.1 E.2.1 dL_law_523 rfl (lv_at hl 1 rfl) ?_
  refine lv_aload_n E.1 E.2.1 dL_law_524 rfl (lv_at hl 0 rfl) ?_
  refine lv_iload E.1 E.2.1 dL_law_525 (lv_at hl 4 rfl) ?_
  refine lv_iconst (v := (1 : Int32)) E.1 E.2.1 dL_law_527 (by decide) ?_
  refine lv_iadd E.1 E.2.1 dL_law_528 ?_
  refine va_sld E.1 E.2.1 hX hbl hbA hW.2.1 y1.1 dL_law_529 ?_
  rw [y1.2]
  refine lv_aload_n E.1 E.2.1 dL_law_530 rfl (lv_at hl 0 rfl) ?_
  refine lv_iload E.1 E.2.1 dL_law_531 (lv_at hl 4 rfl) ?_
  refine lv_iconst (v := (2 : Int32)) E.1 E.2.1 dL_law_533 (by decide) ?_
  refine lv_iadd E.1 E.2.1 dL_law_534 ?_
  refine va_sld E.1 E.2.1 hX hbl hbA hW.2.1 y2.1 dL_law_535 ?_
  rw [y2.2]
  refine lv_aload_n E.1 E.2.1 dL_law_536 rfl (lv_at hl 0 rfl) ?_
  refine lv_iload E.1 E.2.1 dL_law_537 (lv_at hl 4 rfl) ?_
  refine lv_iconst (v := (3 : Int32)) E.1 E.2.1 dL_law_539 (by decide) ?_
  refine lv_iadd E.1 E.2.1 dL_law_540 ?_
  refine va_sld E.1 E.2.1 hX hbl hbA hW.2.1 y3.1 dL_law_541 ?_
  rw [y3.2]
  refine lv_aload_n E.1 E.2.1 dL_law_542 rfl (lv_at hl 0 rfl) ?_
  refine lv_iload E.1 E.2.1 dL_law_543 (lv_at hl 4 rfl) ?_
  refine lv_iconst (v := (4 : Int32)) E.1 E.2.1 dL_law_545 (by decide) ?_
  refine lv_iadd E.1 E.2.1 dL_law_546 ?_
  refine va_sld E.1 E.2.1 hX hbl hbA hW.2.1 y4.1 dL_law_547 ?_
  rw [y4.2]
  refine lv_aload_n E.1 E.2.1 dL_law_548 rfl (lv_at hl 3 rfl) ?_
  refine c_SW (As := [.ref (G.2.2.2 + 0), .int a1, .int a2, .int a3, .int a4, .ref (G.2.2.2 + 311)]) (rest := []) E hN hW (m_L_value (sz := H.size) (τ := τ) hl9 hc6) kw_715 ⟨kw_716, ini_L, kw_717⟩ (⟨⟨by decide +kernel, by decide +kernel⟩, by decide +kernel⟩ : yOK yL_value 6) ⟨rfl, rfl⟩ ⟨(Nat.le_of_ble_eq_true rfl), (Nat.le_of_ble_eq_true rfl)⟩ (lv_size hl) (Nat.le_of_ble_eq_true rfl) ⟨show cells + 5 ≤ 601024 by omega, show slots + 30 ≤ 7293034 by omega⟩ rfl dL_law_549 (fun H locs hW => ?_)
  refine W.eq (g2 := F0 m 552 ls [.int k]) rfl ?_
  refine lv_istore (lv' := [(5, .int k), (0, .ref bs), (1, .ref (G.2.2.2 + 0)), (2, .ref (G.2.2.2 + 258)), (3, .ref (G.2.2.2 + 311)), (4, .int i4)]) E.1 E.2.1 dL_law_552 hl (by decide) rfl (fun ls hl => ?_)
  refine lv_aload_n E.1 E.2.1 dL_law_554 rfl (lv_at hl 3 rfl) ?_
  refine lv_aload_n E.1 E.2.1 dL_law_555 rfl (lv_at hl 1 rfl) ?_
  refine lv_iload E.1 E.2.1 dL_law_556 (lv_at hl 5 rfl) ?_
  refine lv_iconst (v := (1 : Int32)) E.1 E.2.1 dL_law_558 (by decide) ?_
  refine lv_iadd E.1 E.2.1 dL_law_559 ?_
  refine va_sld E.1 E.2.1 hX hbl hbA hW.2.1 y1.1 dL_law_560 ?_
  rw [y1.2]
  refine lv_aload_n E.1 E.2.1 dL_law_561 rfl (lv_at hl 1 rfl) ?_
  refine lv_iload E.1 E.2.1 dL_law_562 (lv_at hl 5 rfl) ?_
  refine lv_iconst (v := (2 : Int32)) E.1 E.2.1 dL_law_564 (by decide) ?_
  refine lv_iadd E.1 E.2.1 dL_law_565 ?_
  refine va_sld E.1 E.2.1 hX hbl hbA hW.2.1 y2.1 dL_law_566 ?_
  rw [y2.2]
  refine lv_aload_n E.1 E.2.1 dL_law_567 rfl (lv_at hl 1 rfl) ?_
  refine lv_iload E.1 E.2.1 dL_law_568 (lv_at hl 5 rfl) ?_
  refine lv_iconst (v := (3 : Int32)) E.1 E.2.1 dL_law_570 (by decide) ?_
  refine lv_iadd E.1 E.2.1 dL_law_571 ?_
  refine va_sld E.1 E.2.1 hX hbl hbA hW.2.1 y3.1 dL_law_572 ?_
  rw [y3.2]
  refine lv_aload_n E.1 E.2.1 dL_law_573 rfl (lv_at hl 1 rfl) ?_
  refine lv_iload E.1 E.2.1 dL_law_574 (lv_at hl 5 rfl) ?_
  refine lv_iconst (v := (4 : Int32)) E.1 E.2.1 dL_law_576 (by decide) ?_
  refine lv_iadd E.1 E.2.1 dL_law_577 ?_
  refine va_sld E.1 E.2.1 hX hbl hbA hW.2.1 y4.1 dL_law_578 ?_
  rw [y4.2]
  refine l_R (As := [.int a1, .int a2, .int a3, .int a4]) (rest := []) E hW (m_X7_value (sz := H.size) hc7) rfl kw_1223 (⟨kw_1224, kw_1225, kw_8, kw_1226⟩ : wV yX7_value cX7_value 10 (some .int)) (⟨⟨by decide +kernel, by decide +kernel⟩, by decide +kernel⟩ : yOK yX7_value 4) ⟨rfl, rfl⟩ ⟨(Nat.le_of_ble_eq_true rfl), (Nat.le_of_ble_eq_true rfl)⟩ (lv_size hl) (Nat.le_of_ble_eq_true rfl) ⟨show cells + 5 ≤ 601024 by omega, show slots + 30 ≤ 7293034 by omega⟩ rfl dL_law_579 (fun H locs hW => ?_)
  refine W.eq (g2 := F0 m 582 ls [.int v]) rfl ?_
  refine lv_istore (lv' := [(6, .int v), (5, .int k), (0, .ref bs), (1, .ref (G.2.2.2 + 0)), (2, .ref (G.2.2.2 + 258)), (3, .ref (G.2.2.2 + 311)), (4, .int i4)]) E.1 E.2.1 dL_law_582 hl (by decide) rfl (fun ls hl => ?_)
  refine lv_aload_n E.1 E.2.1 dL_law_584 rfl (lv_at hl 4 rfl) ?_
  refine l_R (As := []) (rest := []) E hW (m_X7_thrown (sz := H.size) hct) rfl kw_1000 (⟨kw_1001, kw_1002, kw_8, kw_1003⟩ : wV yX7_thrown cX7_thrown 1 (some .int)) (⟨⟨by decide +kernel, by decide +kernel⟩, by decide +kernel⟩ : yOK yX7_thrown 0) ⟨rfl, rfl⟩ ⟨(Nat.le_of_ble_eq_true rfl), (Nat.le_of_ble_eq_true rfl)⟩ (lv_size hl) (Nat.le_of_ble_eq_true rfl) ⟨show cells + 5 ≤ 601024 by omega, show slots + 30 ≤ 7293034 by omega⟩ rfl dL_law_585 (fun H locs hW => ?_)
  refine W.eq (g2 := F0 m 588 ls [.int k]) rfl ?_
  refine lv_iload E.1 E.2.1 dL_law_588 (lv_at hl 1 rfl) ?_
  refine lv_icmp_eq (tgt := 595) E.1 E.2.1 dL_law_590 (by decide) (fun g => ?_) (fun g => absurd rfl g)
  refine lv_iload E.1 E.2.1 dL_law_595 (lv_at hl 1 rfl) ?_
  refine lv_if_ne (tgt := 612) E.1 E.2.1 dL_law_597 (by decide) (fun g => ?_) (fun g => ?_)
  · skip
    refine lv_goto (tgt := 1704) E.1 E.2.1 dL_law_612 (by decide) ?_
    exact kk (cells + 5) (slots + 30) _ _ _ (by omega) (by omega) hW (lv_sub hl [2, 3, 4, 5, 6] rfl)
  · have hk := hk g
    refine lv_aload_n E.1 E.2.1 dL_law_600 rfl (lv_at hl 5 rfl) ?_
    refine lv_iconst (v := (0 : Int32)) E.1 E.2.1 dL_law_601 (by decide) ?_
    refine r_lald E hW (q := 311) (n := 1) rfl vin01 dL_law_602 ?_
    refine W.eq (g2 := F0 m 603 ls [.long (ρ'.2 0 0)]) rfl ?_
    refine lv_iload E.1 E.2.1 dL_law_603 (lv_at hl 0 rfl) ?_
    refine lv_i2l E.1 E.2.1 dL_law_605 rfl ?_
    refine r_lc_eq E dL_law_606 dL_law_607 (tgt := 612) (by decide) (fun g2 => ?_) (fun g2 => absurd hk g2)
    refine lv_goto (tgt := 1704) E.1 E.2.1 dL_law_612 (by decide) ?_
    exact kk (cells + 5) (slots + 30) _ _ _ (by omega) (by omega) hW (lv_sub hl [2, 3, 4, 5, 6] rfl)
set_option maxHeartbeats 4000000 in
set_option maxRecDepth 100000 in
theorem L_degree {p : Program} {l : Launch} {e : Env} {s : State} {m : MethodId} {args : Array Value} {below : List Frame} {meth : Method} {c : Code} {H : Heap} {locs : List Loc} {cells slots : Nat} {Q : State → Prop} {G : GP} {A0 : Nat → Prop} {σ τ ρ σ' τ' ρ' : St} {ls : Array Slot} {bs L : Nat} {xs : Nat → Int32} {i4 a1 a2 a3 a4 a5 : Int32} (E : En p m c s cL_law 7 RL G A0) (hN : Nc4 s) (hl9 : l.stackTraces = false) (hX : va_X bs L xs s s.heap) (hbl : bs < s.heap.size) (hbA : ¬ A0 bs) (hW : Wo G skA A0 s (jn σ τ ρ) H locs)
    (y1 : vp_in (i4 + 1) L ∧ xs (i4 + 1).toNatClampNeg = a1) (y2 : vp_in (i4 + 2) L ∧ xs (i4 + 2).toNatClampNeg = a2) (y3 : vp_in (i4 + 3) L ∧ xs (i4 + 3).toNatClampNeg = a3) (y4 : vp_in (i4 + 4) L ∧ xs (i4 + 4).toNatClampNeg = a4) (y5 : vp_in (i4 + 5) L ∧ xs (i4 + 5).toNatClampNeg = a5)
    (hl : lv_has ls 7 [(0, .ref bs), (1, .ref (G.2.2.2 + 0)), (2, .ref (G.2.2.2 + 258)), (3, .ref (G.2.2.2 + 311)), (4, .int i4)]) (hcs : cells + 8 ≤ 601024 ∧ slots + 48 ≤ 7293034) (h : wst (f_L_degree a1 σ ρ) (f_X7_degree 0 a1 τ) Int32.toInt64 = some (σ', τ', ρ'))
    (kk : ∀ (cells1 slots1 : Nat) (H1 : Heap) (locs1 : List Loc) (ls1 : Array Slot), cells1 ≤ cells + 8 → slots1 ≤ slots + 48 → Wo G skA A0 s (jn σ' τ' ρ') H1 locs1 → lv_has ls1 7 [(0, .ref bs), (1, .ref (G.2.2.2 + 0)), (2, .ref (G.2.2.2 + 258)), (3, .ref (G.2.2.2 + 311)), (4, .int i4)] → W p l e room_1 s m args below meth c H1 locs1 cells1 slots1 Q (F0 m 1704 ls1 [])) :
    W p l e room_1 s m args below meth c H locs cells slots Q (F0 m 615 ls []) := by
  obtain ⟨k, v, τ1, hc6, hc7, hct, hk⟩ := wst_r h
  refine lv_aload_n E.1 E.2.1 dL_law_615 rfl (lv_at hl 1 rfl) ?_
  refine lv_aload_n E.1 E.2.1 dL_law_616 rfl (lv_at hl 0 rfl) ?_
  refine lv_iload E.1 E.2.1 dL_law_617 (lv_at hl 4 rfl) ?_
  refine lv_iconst (v := (1 : Int32)) E.1 E.2.1 dL_law_619 (by decide) ?_
  refine lv_iadd E.1 E.2.1 dL_law_620 ?_
  refine va_sld E.1 E.2.1 hX hbl hbA hW.2.1 y1.1 dL_law_621 ?_
  rw [y1.2]
  refine lv_aload_n E.1 E.2.1 dL_law_622 rfl (lv_at hl 3 rfl) ?_
  refine c_SW (As := [.ref (G.2.2.2 + 0), .int a1, .ref (G.2.2.2 + 311)]) (rest := []) E hN hW (m_L_degree (sz := H.size) (τ := τ) hl9 hc6) kw_736 ⟨kw_737, ini_L, kw_738⟩ (⟨⟨by decide +kernel, by decide +kernel⟩, by decide +kernel⟩ : yOK yL_degree 3) ⟨rfl, rfl⟩ ⟨(Nat.le_of_ble_eq_true rfl), (Nat.le_of_ble_eq_true rfl)⟩ (lv_size hl) (Nat.le_of_ble_eq_true rfl) ⟨show cells + 2 ≤ 601024 by omega, show slots + 12 ≤ 7293034 by omega⟩ rfl dL_law_623 (fun H locs hW => ?_)
  refine W.eq (g2 := F0 m 626 ls [.int k]) rfl ?_
  refine lv_istore (lv' := [(5, .int k), (0, .ref bs), (1, .ref (G.2.2.2 + 0)), (2, .ref (G.2.2.2 + 258)), (3, .ref (G.2.2.2 + 311)), (4, .int i4)]) E.1 E.2.1 dL_law_626 hl (by decide) rfl (fun ls hl => ?_)
  refine lv_aload_n E.1 E.2.1 dL_law_628 rfl (lv_at hl 3 rfl) ?_
  refine lv_aload_n E.1 E.2.1 dL_law_629 rfl (lv_at hl 1 rfl) ?_
  refine lv_iload E.1 E.2.1 dL_law_630 (lv_at hl 5 rfl) ?_
  refine lv_iconst (v := (1 : Int32)) E.1 E.2.1 dL_law_632 (by decide) ?_
  refine lv_iadd E.1 E.2.1 dL_law_633 ?_
  refine va_sld E.1 E.2.1 hX hbl hbA hW.2.1 y1.1 dL_law_634 ?_
  rw [y1.2]
  refine l_R (As := [.int a1]) (rest := []) E hW (m_X7_degree (sz := H.size) hc7) rfl kw_1230 (⟨kw_1231, kw_1232, kw_8, kw_1233⟩ : wV yX7_degree cX7_degree 4 (some .int)) (⟨⟨by decide +kernel, by decide +kernel⟩, by decide +kernel⟩ : yOK yX7_degree 1) ⟨rfl, rfl⟩ ⟨(Nat.le_of_ble_eq_true rfl), (Nat.le_of_ble_eq_true rfl)⟩ (lv_size hl) (Nat.le_of_ble_eq_true rfl) ⟨show cells + 2 ≤ 601024 by omega, show slots + 12 ≤ 7293034 by omega⟩ rfl dL_law_635 (fun H locs hW => ?_)
  refine W.eq (g2 := F0 m 638 ls [.int v]) rfl ?_
  refine lv_istore (lv' := [(6, .int v), (5, .int k), (0, .ref bs), (1, .ref (G.2.2.2 + 0)), (2, .ref (G.2.2.2 + 258)), (3, .ref (G.2.2.2 + 311)), (4, .int i4)]) E.1 E.2.1 dL_law_638 hl (by decide) rfl (fun ls hl => ?_)
  refine lv_aload_n E.1 E.2.1 dL_law_640 rfl (lv_at hl 4 rfl) ?_
  refine l_R (As := []) (rest := []) E hW (m_X7_thrown (sz := H.size) hct) rfl kw_1000 (⟨kw_1001, kw_1002, kw_8, kw_1003⟩ : wV yX7_thrown cX7_thrown 1 (some .int)) (⟨⟨by decide +kernel, by decide +kernel⟩, by decide +kernel⟩ : yOK yX7_thrown 0) ⟨rfl, rfl⟩ ⟨(Nat.le_of_ble_eq_true rfl), (Nat.le_of_ble_eq_true rfl)⟩ (lv_size hl) (Nat.le_of_ble_eq_true rfl) ⟨show cells + 2 ≤ 601024 by omega, show slots + 12 ≤ 7293034 by omega⟩ rfl dL_law_641 (fun H locs hW => ?_)
  refine W.eq (g2 := F0 m 644 ls [.int k]) rfl ?_
  refine lv_iload E.1 E.2.1 dL_law_644 (lv_at hl 1 rfl) ?_
  refine lv_icmp_eq (tgt := 651) E.1 E.2.1 dL_law_646 (by decide) (fun g => ?_) (fun g => absurd rfl g)
  refine lv_iload E.1 E.2.1 dL_law_651 (lv_at hl 1 rfl) ?_
  refine lv_if_ne (tgt := 668) E.1 E.2.1 dL_law_653 (by decide) (fun g => ?_) (fun g => ?_)
  · skip
    refine lv_goto (tgt := 1704) E.1 E.2.1 dL_law_668 (by decide) ?_
    exact kk (cells + 2) (slots + 12) _ _ _ (by omega) (by omega) hW (lv_sub hl [2, 3, 4, 5, 6] rfl)
  · have hk := hk g
    refine lv_aload_n E.1 E.2.1 dL_law_656 rfl (lv_at hl 5 rfl) ?_
    refine lv_iconst (v := (0 : Int32)) E.1 E.2.1 dL_law_657 (by decide) ?_
    refine r_lald E hW (q := 311) (n := 1) rfl vin01 dL_law_658 ?_
    refine W.eq (g2 := F0 m 659 ls [.long (ρ'.2 0 0)]) rfl ?_
    refine lv_iload E.1 E.2.1 dL_law_659 (lv_at hl 0 rfl) ?_
    refine lv_i2l E.1 E.2.1 dL_law_661 rfl ?_
    refine r_lc_eq E dL_law_662 dL_law_663 (tgt := 668) (by decide) (fun g2 => ?_) (fun g2 => absurd hk g2)
    refine lv_goto (tgt := 1704) E.1 E.2.1 dL_law_668 (by decide) ?_
    exact kk (cells + 2) (slots + 12) _ _ _ (by omega) (by omega) hW (lv_sub hl [2, 3, 4, 5, 6] rfl)
set_option maxHeartbeats 4000000 in
set_option maxRecDepth 100000 in
theorem L_covers {p : Program} {l : Launch} {e : Env} {s : State} {m : MethodId} {args : Array Value} {below : List Frame} {meth : Method} {c : Code} {H : Heap} {locs : List Loc} {cells slots : Nat} {Q : State → Prop} {G : GP} {A0 : Nat → Prop} {σ τ ρ σ' τ' ρ' : St} {ls : Array Slot} {bs L : Nat} {xs : Nat → Int32} {i4 a1 a2 a3 a4 a5 : Int32} (E : En p m c s cL_law 7 RL G A0) (hN : Nc4 s) (hl9 : l.stackTraces = false) (hX : va_X bs L xs s s.heap) (hbl : bs < s.heap.size) (hbA : ¬ A0 bs) (hW : Wo G skA A0 s (jn σ τ ρ) H locs)
    (y1 : vp_in (i4 + 1) L ∧ xs (i4 + 1).toNatClampNeg = a1) (y2 : vp_in (i4 + 2) L ∧ xs (i4 + 2).toNatClampNeg = a2) (y3 : vp_in (i4 + 3) L ∧ xs (i4 + 3).toNatClampNeg = a3) (y4 : vp_in (i4 + 4) L ∧ xs (i4 + 4).toNatClampNeg = a4) (y5 : vp_in (i4 + 5) L ∧ xs (i4 + 5).toNatClampNeg = a5)
    (hl : lv_has ls 7 [(0, .ref bs), (1, .ref (G.2.2.2 + 0)), (2, .ref (G.2.2.2 + 258)), (3, .ref (G.2.2.2 + 311)), (4, .int i4)]) (hcs : cells + 8 ≤ 601024 ∧ slots + 48 ≤ 7293034) (h : wst (f_L_covers a1 a2 σ ρ) (f_X7_covers 0 a1 a2 τ) tz = some (σ', τ', ρ'))
    (kk : ∀ (cells1 slots1 : Nat) (H1 : Heap) (locs1 : List Loc) (ls1 : Array Slot), cells1 ≤ cells + 8 → slots1 ≤ slots + 48 → Wo G skA A0 s (jn σ' τ' ρ') H1 locs1 → lv_has ls1 7 [(0, .ref bs), (1, .ref (G.2.2.2 + 0)), (2, .ref (G.2.2.2 + 258)), (3, .ref (G.2.2.2 + 311)), (4, .int i4)] → W p l e room_1 s m args below meth c H1 locs1 cells1 slots1 Q (F0 m 1704 ls1 [])) :
    W p l e room_1 s m args below meth c H locs cells slots Q (F0 m 671 ls []) := by
  obtain ⟨k, v, τ1, hc6, hc7, hct, hk⟩ := wst_r h
  refine lv_aload_n E.1 E.2.1 dL_law_671 rfl (lv_at hl 1 rfl) ?_
  refine lv_aload_n E.1 E.2.1 dL_law_672 rfl (lv_at hl 0 rfl) ?_
  refine lv_iload E.1 E.2.1 dL_law_673 (lv_at hl 4 rfl) ?_
  refine lv_iconst (v := (1 : Int32)) E.1 E.2.1 dL_law_675 (by decide) ?_
  refine lv_iadd E.1 E.2.1 dL_law_676 ?_
  refine va_sld E.1 E.2.1 hX hbl hbA hW.2.1 y1.1 dL_law_677 ?_
  rw [y1.2]
  refine lv_aload_n E.1 E.2.1 dL_law_678 rfl (lv_at hl 0 rfl) ?_
  refine lv_iload E.1 E.2.1 dL_law_679 (lv_at hl 4 rfl) ?_
  refine lv_iconst (v := (2 : Int32)) E.1 E.2.1 dL_law_681 (by decide) ?_
  refine lv_iadd E.1 E.2.1 dL_law_682 ?_
  refine va_sld E.1 E.2.1 hX hbl hbA hW.2.1 y2.1 dL_law_683 ?_
  rw [y2.2]
  refine lv_aload_n E.1 E.2.1 dL_law_684 rfl (lv_at hl 3 rfl) ?_
  refine c_SW (As := [.ref (G.2.2.2 + 0), .int a1, .int a2, .ref (G.2.2.2 + 311)]) (rest := []) E hN hW (m_L_covers (sz := H.size) (τ := τ) hl9 hc6) kw_748 ⟨kw_749, ini_L, kw_750⟩ (⟨⟨by decide +kernel, by decide +kernel⟩, by decide +kernel⟩ : yOK yL_covers 4) ⟨rfl, rfl⟩ ⟨(Nat.le_of_ble_eq_true rfl), (Nat.le_of_ble_eq_true rfl)⟩ (lv_size hl) (Nat.le_of_ble_eq_true rfl) ⟨show cells + 4 ≤ 601024 by omega, show slots + 24 ≤ 7293034 by omega⟩ rfl dL_law_685 (fun H locs hW => ?_)
  refine W.eq (g2 := F0 m 688 ls [.int k]) rfl ?_
  refine lv_istore (lv' := [(5, .int k), (0, .ref bs), (1, .ref (G.2.2.2 + 0)), (2, .ref (G.2.2.2 + 258)), (3, .ref (G.2.2.2 + 311)), (4, .int i4)]) E.1 E.2.1 dL_law_688 hl (by decide) rfl (fun ls hl => ?_)
  refine lv_aload_n E.1 E.2.1 dL_law_690 rfl (lv_at hl 3 rfl) ?_
  refine lv_aload_n E.1 E.2.1 dL_law_691 rfl (lv_at hl 1 rfl) ?_
  refine lv_iload E.1 E.2.1 dL_law_692 (lv_at hl 5 rfl) ?_
  refine lv_iconst (v := (1 : Int32)) E.1 E.2.1 dL_law_694 (by decide) ?_
  refine lv_iadd E.1 E.2.1 dL_law_695 ?_
  refine va_sld E.1 E.2.1 hX hbl hbA hW.2.1 y1.1 dL_law_696 ?_
  rw [y1.2]
  refine lv_aload_n E.1 E.2.1 dL_law_697 rfl (lv_at hl 1 rfl) ?_
  refine lv_iload E.1 E.2.1 dL_law_698 (lv_at hl 5 rfl) ?_
  refine lv_iconst (v := (2 : Int32)) E.1 E.2.1 dL_law_700 (by decide) ?_
  refine lv_iadd E.1 E.2.1 dL_law_701 ?_
  refine va_sld E.1 E.2.1 hX hbl hbA hW.2.1 y2.1 dL_law_702 ?_
  rw [y2.2]
  refine l_R (As := [.int a1, .int a2]) (rest := []) E hW (m_X7_covers (sz := H.size) hc7) rfl kw_1234 (⟨kw_1235, kw_1236, kw_8, kw_1237⟩ : wV yX7_covers cX7_covers 4 (some .boolean)) (⟨⟨by decide +kernel, by decide +kernel⟩, by decide +kernel⟩ : yOK yX7_covers 2) ⟨rfl, rfl⟩ ⟨(Nat.le_of_ble_eq_true rfl), (Nat.le_of_ble_eq_true rfl)⟩ (lv_size hl) (Nat.le_of_ble_eq_true rfl) ⟨show cells + 4 ≤ 601024 by omega, show slots + 24 ≤ 7293034 by omega⟩ rfl dL_law_703 (fun H locs hW => ?_)
  refine W.eq (g2 := F0 m 706 ls [.int v]) rfl ?_
  refine lv_istore (lv' := [(6, .int v), (5, .int k), (0, .ref bs), (1, .ref (G.2.2.2 + 0)), (2, .ref (G.2.2.2 + 258)), (3, .ref (G.2.2.2 + 311)), (4, .int i4)]) E.1 E.2.1 dL_law_706 hl (by decide) rfl (fun ls hl => ?_)
  refine lv_aload_n E.1 E.2.1 dL_law_708 rfl (lv_at hl 4 rfl) ?_
  refine l_R (As := []) (rest := []) E hW (m_X7_thrown (sz := H.size) hct) rfl kw_1000 (⟨kw_1001, kw_1002, kw_8, kw_1003⟩ : wV yX7_thrown cX7_thrown 1 (some .int)) (⟨⟨by decide +kernel, by decide +kernel⟩, by decide +kernel⟩ : yOK yX7_thrown 0) ⟨rfl, rfl⟩ ⟨(Nat.le_of_ble_eq_true rfl), (Nat.le_of_ble_eq_true rfl)⟩ (lv_size hl) (Nat.le_of_ble_eq_true rfl) ⟨show cells + 4 ≤ 601024 by omega, show slots + 24 ≤ 7293034 by omega⟩ rfl dL_law_709 (fun H locs hW => ?_)
  refine W.eq (g2 := F0 m 712 ls [.int k]) rfl ?_
  refine lv_iload E.1 E.2.1 dL_law_712 (lv_at hl 1 rfl) ?_
  refine lv_icmp_eq (tgt := 719) E.1 E.2.1 dL_law_714 (by decide) (fun g => ?_) (fun g => absurd rfl g)
  refine lv_iload E.1 E.2.1 dL_law_719 (lv_at hl 1 rfl) ?_
  refine lv_if_ne (tgt := 743) E.1 E.2.1 dL_law_721 (by decide) (fun g => ?_) (fun g => ?_)
  · skip
    refine lv_goto (tgt := 1704) E.1 E.2.1 dL_law_743 (by decide) ?_
    exact kk (cells + 4) (slots + 24) _ _ _ (by omega) (by omega) hW (lv_sub hl [2, 3, 4, 5, 6] rfl)
  · have hk := hk g
    refine lv_aload_n E.1 E.2.1 dL_law_724 rfl (lv_at hl 5 rfl) ?_
    refine lv_iconst (v := (0 : Int32)) E.1 E.2.1 dL_law_725 (by decide) ?_
    refine r_lald E hW (q := 311) (n := 1) rfl vin01 dL_law_726 ?_
    refine W.eq (g2 := F0 m 727 ls [.long (ρ'.2 0 0)]) rfl ?_
    refine lv_iload E.1 E.2.1 dL_law_727 (lv_at hl 0 rfl) ?_
    refine lv_if_eq (tgt := 736) E.1 E.2.1 dL_law_729 (by decide) (fun g => ?_) (fun g => ?_)
    · refine lv_lconst (v := (0 : Int64)) E.1 E.2.1 dL_law_736 (by decide) ?_
      refine r_lc_eq E dL_law_737 dL_law_738 (tgt := 743) (by decide) (fun g2 => ?_) (fun g2 => absurd (by rw [hk]; simp [tz, g]) g2)
      refine lv_goto (tgt := 1704) E.1 E.2.1 dL_law_743 (by decide) ?_
      exact kk (cells + 4) (slots + 24) _ _ _ (by omega) (by omega) hW (lv_sub hl [2, 3, 4, 5, 6] rfl)
    · refine lv_lconst (v := (1 : Int64)) E.1 E.2.1 dL_law_732 (by decide) ?_
      refine lv_goto (tgt := 737) E.1 E.2.1 dL_law_733 (by decide) ?_
      refine r_lc_eq E dL_law_737 dL_law_738 (tgt := 743) (by decide) (fun g2 => ?_) (fun g2 => absurd (by rw [hk]; simp [tz, g]) g2)
      refine lv_goto (tgt := 1704) E.1 E.2.1 dL_law_743 (by decide) ?_
      exact kk (cells + 4) (slots + 24) _ _ _ (by omega) (by omega) hW (lv_sub hl [2, 3, 4, 5, 6] rfl)
set_option maxHeartbeats 4000000 in
set_option maxRecDepth 100000 in
theorem L_reason {p : Program} {l : Launch} {e : Env} {s : State} {m : MethodId} {args : Array Value} {below : List Frame} {meth : Method} {c : Code} {H : Heap} {locs : List Loc} {cells slots : Nat} {Q : State → Prop} {G : GP} {A0 : Nat → Prop} {σ τ ρ σ' τ' ρ' : St} {ls : Array Slot} {bs L : Nat} {xs : Nat → Int32} {i4 a1 a2 a3 a4 a5 : Int32} (E : En p m c s cL_law 7 RL G A0) (hN : Nc4 s) (hl9 : l.stackTraces = false) (hX : va_X bs L xs s s.heap) (hbl : bs < s.heap.size) (hbA : ¬ A0 bs) (hW : Wo G skA A0 s (jn σ τ ρ) H locs)
    (y1 : vp_in (i4 + 1) L ∧ xs (i4 + 1).toNatClampNeg = a1) (y2 : vp_in (i4 + 2) L ∧ xs (i4 + 2).toNatClampNeg = a2) (y3 : vp_in (i4 + 3) L ∧ xs (i4 + 3).toNatClampNeg = a3) (y4 : vp_in (i4 + 4) L ∧ xs (i4 + 4).toNatClampNeg = a4) (y5 : vp_in (i4 + 5) L ∧ xs (i4 + 5).toNatClampNeg = a5)
    (hl : lv_has ls 7 [(0, .ref bs), (1, .ref (G.2.2.2 + 0)), (2, .ref (G.2.2.2 + 258)), (3, .ref (G.2.2.2 + 311)), (4, .int i4)]) (hcs : cells + 8 ≤ 601024 ∧ slots + 48 ≤ 7293034) (h : wst (f_L_reason a1 a2 a3 σ ρ) (f_X7_reason 0 a1 a2 a3 τ) Int32.toInt64 = some (σ', τ', ρ'))
    (kk : ∀ (cells1 slots1 : Nat) (H1 : Heap) (locs1 : List Loc) (ls1 : Array Slot), cells1 ≤ cells + 8 → slots1 ≤ slots + 48 → Wo G skA A0 s (jn σ' τ' ρ') H1 locs1 → lv_has ls1 7 [(0, .ref bs), (1, .ref (G.2.2.2 + 0)), (2, .ref (G.2.2.2 + 258)), (3, .ref (G.2.2.2 + 311)), (4, .int i4)] → W p l e room_1 s m args below meth c H1 locs1 cells1 slots1 Q (F0 m 1704 ls1 [])) :
    W p l e room_1 s m args below meth c H locs cells slots Q (F0 m 746 ls []) := by
  obtain ⟨k, v, τ1, hc6, hc7, hct, hk⟩ := wst_r h
  refine lv_aload_n E.1 E.2.1 dL_law_746 rfl (lv_at hl 1 rfl) ?_
  refine lv_aload_n E.1 E.2.1 dL_law_747 rfl (lv_at hl 0 rfl) ?_
  refine lv_iload E.1 E.2.1 dL_law_748 (lv_at hl 4 rfl) ?_
  refine lv_iconst (v := (1 : Int32)) E.1 E.2.1 dL_law_750 (by decide) ?_
  refine lv_iadd E.1 E.2.1 dL_law_751 ?_
  refine va_sld E.1 E.2.1 hX hbl hbA hW.2.1 y1.1 dL_law_752 ?_
  rw [y1.2]
  refine lv_aload_n E.1 E.2.1 dL_law_753 rfl (lv_at hl 0 rfl) ?_
  refine lv_iload E.1 E.2.1 dL_law_754 (lv_at hl 4 rfl) ?_
  refine lv_iconst (v := (2 : Int32)) E.1 E.2.1 dL_law_756 (by decide) ?_
  refine lv_iadd E.1 E.2.1 dL_law_757 ?_
  refine va_sld E.1 E.2.1 hX hbl hbA hW.2.1 y2.1 dL_law_758 ?_
  rw [y2.2]
  refine lv_aload_n E.1 E.2.1 dL_law_759 rfl (lv_at hl 0 rfl) ?_
  refine lv_iload E.1 E.2.1 dL_law_760 (lv_at hl 4 rfl) ?_
  refine lv_iconst (v := (3 : Int32)) E.1 E.2.1 dL_law_762 (by decide) ?_
  refine lv_iadd E.1 E.2.1 dL_law_763 ?_
  refine va_sld E.1 E.2.1 hX hbl hbA hW.2.1 y3.1 dL_law_764 ?_
  rw [y3.2]
  refine lv_aload_n E.1 E.2.1 dL_law_765 rfl (lv_at hl 3 rfl) ?_
  refine c_SW (As := [.ref (G.2.2.2 + 0), .int a1, .int a2, .int a3, .ref (G.2.2.2 + 311)]) (rest := []) E hN hW (m_L_reason (sz := H.size) (τ := τ) hl9 hc6) kw_761 ⟨kw_762, ini_L, kw_763⟩ (⟨⟨by decide +kernel, by decide +kernel⟩, by decide +kernel⟩ : yOK yL_reason 5) ⟨rfl, rfl⟩ ⟨(Nat.le_of_ble_eq_true rfl), (Nat.le_of_ble_eq_true rfl)⟩ (lv_size hl) (Nat.le_of_ble_eq_true rfl) ⟨show cells + 6 ≤ 601024 by omega, show slots + 36 ≤ 7293034 by omega⟩ rfl dL_law_766 (fun H locs hW => ?_)
  refine W.eq (g2 := F0 m 769 ls [.int k]) rfl ?_
  refine lv_istore (lv' := [(5, .int k), (0, .ref bs), (1, .ref (G.2.2.2 + 0)), (2, .ref (G.2.2.2 + 258)), (3, .ref (G.2.2.2 + 311)), (4, .int i4)]) E.1 E.2.1 dL_law_769 hl (by decide) rfl (fun ls hl => ?_)
  refine lv_aload_n E.1 E.2.1 dL_law_771 rfl (lv_at hl 3 rfl) ?_
  refine lv_aload_n E.1 E.2.1 dL_law_772 rfl (lv_at hl 1 rfl) ?_
  refine lv_iload E.1 E.2.1 dL_law_773 (lv_at hl 5 rfl) ?_
  refine lv_iconst (v := (1 : Int32)) E.1 E.2.1 dL_law_775 (by decide) ?_
  refine lv_iadd E.1 E.2.1 dL_law_776 ?_
  refine va_sld E.1 E.2.1 hX hbl hbA hW.2.1 y1.1 dL_law_777 ?_
  rw [y1.2]
  refine lv_aload_n E.1 E.2.1 dL_law_778 rfl (lv_at hl 1 rfl) ?_
  refine lv_iload E.1 E.2.1 dL_law_779 (lv_at hl 5 rfl) ?_
  refine lv_iconst (v := (2 : Int32)) E.1 E.2.1 dL_law_781 (by decide) ?_
  refine lv_iadd E.1 E.2.1 dL_law_782 ?_
  refine va_sld E.1 E.2.1 hX hbl hbA hW.2.1 y2.1 dL_law_783 ?_
  rw [y2.2]
  refine lv_aload_n E.1 E.2.1 dL_law_784 rfl (lv_at hl 1 rfl) ?_
  refine lv_iload E.1 E.2.1 dL_law_785 (lv_at hl 5 rfl) ?_
  refine lv_iconst (v := (3 : Int32)) E.1 E.2.1 dL_law_787 (by decide) ?_
  refine lv_iadd E.1 E.2.1 dL_law_788 ?_
  refine va_sld E.1 E.2.1 hX hbl hbA hW.2.1 y3.1 dL_law_789 ?_
  rw [y3.2]
  refine l_R (As := [.int a1, .int a2, .int a3]) (rest := []) E hW (m_X7_reason (sz := H.size) hc7) rfl kw_1242 (⟨kw_1243, kw_1244, kw_8, kw_1245⟩ : wV yX7_reason cX7_reason 4 (some .int)) (⟨⟨by decide +kernel, by decide +kernel⟩, by decide +kernel⟩ : yOK yX7_reason 3) ⟨rfl, rfl⟩ ⟨(Nat.le_of_ble_eq_true rfl), (Nat.le_of_ble_eq_true rfl)⟩ (lv_size hl) (Nat.le_of_ble_eq_true rfl) ⟨show cells + 6 ≤ 601024 by omega, show slots + 36 ≤ 7293034 by omega⟩ rfl dL_law_790 (fun H locs hW => ?_)
  refine W.eq (g2 := F0 m 793 ls [.int v]) rfl ?_
  refine lv_istore (lv' := [(6, .int v), (5, .int k), (0, .ref bs), (1, .ref (G.2.2.2 + 0)), (2, .ref (G.2.2.2 + 258)), (3, .ref (G.2.2.2 + 311)), (4, .int i4)]) E.1 E.2.1 dL_law_793 hl (by decide) rfl (fun ls hl => ?_)
  refine lv_aload_n E.1 E.2.1 dL_law_795 rfl (lv_at hl 4 rfl) ?_
  refine l_R (As := []) (rest := []) E hW (m_X7_thrown (sz := H.size) hct) rfl kw_1000 (⟨kw_1001, kw_1002, kw_8, kw_1003⟩ : wV yX7_thrown cX7_thrown 1 (some .int)) (⟨⟨by decide +kernel, by decide +kernel⟩, by decide +kernel⟩ : yOK yX7_thrown 0) ⟨rfl, rfl⟩ ⟨(Nat.le_of_ble_eq_true rfl), (Nat.le_of_ble_eq_true rfl)⟩ (lv_size hl) (Nat.le_of_ble_eq_true rfl) ⟨show cells + 6 ≤ 601024 by omega, show slots + 36 ≤ 7293034 by omega⟩ rfl dL_law_796 (fun H locs hW => ?_)
  refine W.eq (g2 := F0 m 799 ls [.int k]) rfl ?_
  refine lv_iload E.1 E.2.1 dL_law_799 (lv_at hl 1 rfl) ?_
  refine lv_icmp_eq (tgt := 806) E.1 E.2.1 dL_law_801 (by decide) (fun g => ?_) (fun g => absurd rfl g)
  refine lv_iload E.1 E.2.1 dL_law_806 (lv_at hl 1 rfl) ?_
  refine lv_if_ne (tgt := 823) E.1 E.2.1 dL_law_808 (by decide) (fun g => ?_) (fun g => ?_)
  · skip
    refine lv_goto (tgt := 1704) E.1 E.2.1 dL_law_823 (by decide) ?_
    exact kk (cells + 6) (slots + 36) _ _ _ (by omega) (by omega) hW (lv_sub hl [2, 3, 4, 5, 6] rfl)
  · have hk := hk g
    refine lv_aload_n E.1 E.2.1 dL_law_811 rfl (lv_at hl 5 rfl) ?_
    refine lv_iconst (v := (0 : Int32)) E.1 E.2.1 dL_law_812 (by decide) ?_
    refine r_lald E hW (q := 311) (n := 1) rfl vin01 dL_law_813 ?_
    refine W.eq (g2 := F0 m 814 ls [.long (ρ'.2 0 0)]) rfl ?_
    refine lv_iload E.1 E.2.1 dL_law_814 (lv_at hl 0 rfl) ?_
    refine lv_i2l E.1 E.2.1 dL_law_816 rfl ?_
    refine r_lc_eq E dL_law_817 dL_law_818 (tgt := 823) (by decide) (fun g2 => ?_) (fun g2 => absurd hk g2)
    refine lv_goto (tgt := 1704) E.1 E.2.1 dL_law_823 (by decide) ?_
    exact kk (cells + 6) (slots + 36) _ _ _ (by omega) (by omega) hW (lv_sub hl [2, 3, 4, 5, 6] rfl)
set_option maxHeartbeats 4000000 in
set_option maxRecDepth 100000 in
theorem L_add {p : Program} {l : Launch} {e : Env} {s : State} {m : MethodId} {args : Array Value} {below : List Frame} {meth : Method} {c : Code} {H : Heap} {locs : List Loc} {cells slots : Nat} {Q : State → Prop} {G : GP} {A0 : Nat → Prop} {σ τ ρ σ' τ' ρ' : St} {ls : Array Slot} {bs L : Nat} {xs : Nat → Int32} {i4 a1 a2 a3 a4 a5 : Int32} (E : En p m c s cL_law 7 RL G A0) (hN : Nc4 s) (hl9 : l.stackTraces = false) (hX : va_X bs L xs s s.heap) (hbl : bs < s.heap.size) (hbA : ¬ A0 bs) (hW : Wo G skA A0 s (jn σ τ ρ) H locs)
    (y1 : vp_in (i4 + 1) L ∧ xs (i4 + 1).toNatClampNeg = a1) (y2 : vp_in (i4 + 2) L ∧ xs (i4 + 2).toNatClampNeg = a2) (y3 : vp_in (i4 + 3) L ∧ xs (i4 + 3).toNatClampNeg = a3) (y4 : vp_in (i4 + 4) L ∧ xs (i4 + 4).toNatClampNeg = a4) (y5 : vp_in (i4 + 5) L ∧ xs (i4 + 5).toNatClampNeg = a5)
    (hl : lv_has ls 7 [(0, .ref bs), (1, .ref (G.2.2.2 + 0)), (2, .ref (G.2.2.2 + 258)), (3, .ref (G.2.2.2 + 311)), (4, .int i4)]) (hcs : cells + 8 ≤ 601024 ∧ slots + 48 ≤ 7293034) (h : wst (f_L_add a1 a2 a3 σ ρ) (f_X7_add 0 a1 a2 a3 τ) Int32.toInt64 = some (σ', τ', ρ'))
    (kk : ∀ (cells1 slots1 : Nat) (H1 : Heap) (locs1 : List Loc) (ls1 : Array Slot), cells1 ≤ cells + 8 → slots1 ≤ slots + 48 → Wo G skA A0 s (jn σ' τ' ρ') H1 locs1 → lv_has ls1 7 [(0, .ref bs), (1, .ref (G.2.2.2 + 0)), (2, .ref (G.2.2.2 + 258)), (3, .ref (G.2.2.2 + 311)), (4, .int i4)] → W p l e room_1 s m args below meth c H1 locs1 cells1 slots1 Q (F0 m 1704 ls1 [])) :
    W p l e room_1 s m args below meth c H locs cells slots Q (F0 m 826 ls []) := by
  obtain ⟨k, v, τ1, hc6, hc7, hct, hk⟩ := wst_r h
  refine lv_aload_n E.1 E.2.1 dL_law_826 rfl (lv_at hl 1 rfl) ?_
  refine lv_aload_n E.1 E.2.1 dL_law_827 rfl (lv_at hl 0 rfl) ?_
  refine lv_iload E.1 E.2.1 dL_law_828 (lv_at hl 4 rfl) ?_
  refine lv_iconst (v := (1 : Int32)) E.1 E.2.1 dL_law_830 (by decide) ?_
  refine lv_iadd E.1 E.2.1 dL_law_831 ?_
  refine va_sld E.1 E.2.1 hX hbl hbA hW.2.1 y1.1 dL_law_832 ?_
  rw [y1.2]
  refine lv_aload_n E.1 E.2.1 dL_law_833 rfl (lv_at hl 0 rfl) ?_
  refine lv_iload E.1 E.2.1 dL_law_834 (lv_at hl 4 rfl) ?_
  refine lv_iconst (v := (2 : Int32)) E.1 E.2.1 dL_law_836 (by decide) ?_
  refine lv_iadd E.1 E.2.1 dL_law_837 ?_
  refine va_sld E.1 E.2.1 hX hbl hbA hW.2.1 y2.1 dL_law_838 ?_
  rw [y2.2]
  refine lv_aload_n E.1 E.2.1 dL_law_839 rfl (lv_at hl 0 rfl) ?_
  refine lv_iload E.1 E.2.1 dL_law_840 (lv_at hl 4 rfl) ?_
  refine lv_iconst (v := (3 : Int32)) E.1 E.2.1 dL_law_842 (by decide) ?_
  refine lv_iadd E.1 E.2.1 dL_law_843 ?_
  refine va_sld E.1 E.2.1 hX hbl hbA hW.2.1 y3.1 dL_law_844 ?_
  rw [y3.2]
  refine lv_aload_n E.1 E.2.1 dL_law_845 rfl (lv_at hl 3 rfl) ?_
  refine c_SW (As := [.ref (G.2.2.2 + 0), .int a1, .int a2, .int a3, .ref (G.2.2.2 + 311)]) (rest := []) E hN hW (m_L_add (sz := H.size) (τ := τ) hl9 hc6) kw_770 ⟨kw_771, ini_L, kw_772⟩ (⟨⟨by decide +kernel, by decide +kernel⟩, by decide +kernel⟩ : yOK yL_add 5) ⟨rfl, rfl⟩ ⟨(Nat.le_of_ble_eq_true rfl), (Nat.le_of_ble_eq_true rfl)⟩ (lv_size hl) (Nat.le_of_ble_eq_true rfl) ⟨show cells + 6 ≤ 601024 by omega, show slots + 36 ≤ 7293034 by omega⟩ rfl dL_law_846 (fun H locs hW => ?_)
  refine W.eq (g2 := F0 m 849 ls [.int k]) rfl ?_
  refine lv_istore (lv' := [(5, .int k), (0, .ref bs), (1, .ref (G.2.2.2 + 0)), (2, .ref (G.2.2.2 + 258)), (3, .ref (G.2.2.2 + 311)), (4, .int i4)]) E.1 E.2.1 dL_law_849 hl (by decide) rfl (fun ls hl => ?_)
  refine lv_aload_n E.1 E.2.1 dL_law_851 rfl (lv_at hl 3 rfl) ?_
  refine lv_aload_n E.1 E.2.1 dL_law_852 rfl (lv_at hl 1 rfl) ?_
  refine lv_iload E.1 E.2.1 dL_law_853 (lv_at hl 5 rfl) ?_
  refine lv_iconst (v := (1 : Int32)) E.1 E.2.1 dL_law_855 (by decide) ?_
  refine lv_iadd E.1 E.2.1 dL_law_856 ?_
  refine va_sld E.1 E.2.1 hX hbl hbA hW.2.1 y1.1 dL_law_857 ?_
  rw [y1.2]
  refine lv_aload_n E.1 E.2.1 dL_law_858 rfl (lv_at hl 1 rfl) ?_
  refine lv_iload E.1 E.2.1 dL_law_859 (lv_at hl 5 rfl) ?_
  refine lv_iconst (v := (2 : Int32)) E.1 E.2.1 dL_law_861 (by decide) ?_
  refine lv_iadd E.1 E.2.1 dL_law_862 ?_
  refine va_sld E.1 E.2.1 hX hbl hbA hW.2.1 y2.1 dL_law_863 ?_
  rw [y2.2]
  refine lv_aload_n E.1 E.2.1 dL_law_864 rfl (lv_at hl 1 rfl) ?_
  refine lv_iload E.1 E.2.1 dL_law_865 (lv_at hl 5 rfl) ?_
  refine lv_iconst (v := (3 : Int32)) E.1 E.2.1 dL_law_867 (by decide) ?_
  refine lv_iadd E.1 E.2.1 dL_law_868 ?_
  refine va_sld E.1 E.2.1 hX hbl hbA hW.2.1 y3.1 dL_law_869 ?_
  rw [y3.2]
  refine l_R (As := [.int a1, .int a2, .int a3]) (rest := []) E hW (m_X7_add (sz := H.size) hc7) rfl kw_1250 (⟨kw_1251, kw_1252, kw_8, kw_1253⟩ : wV yX7_add cX7_add 4 (some .int)) (⟨⟨by decide +kernel, by decide +kernel⟩, by decide +kernel⟩ : yOK yX7_add 3) ⟨rfl, rfl⟩ ⟨(Nat.le_of_ble_eq_true rfl), (Nat.le_of_ble_eq_true rfl)⟩ (lv_size hl) (Nat.le_of_ble_eq_true rfl) ⟨show cells + 6 ≤ 601024 by omega, show slots + 36 ≤ 7293034 by omega⟩ rfl dL_law_870 (fun H locs hW => ?_)
  refine W.eq (g2 := F0 m 873 ls [.int v]) rfl ?_
  refine lv_istore (lv' := [(6, .int v), (5, .int k), (0, .ref bs), (1, .ref (G.2.2.2 + 0)), (2, .ref (G.2.2.2 + 258)), (3, .ref (G.2.2.2 + 311)), (4, .int i4)]) E.1 E.2.1 dL_law_873 hl (by decide) rfl (fun ls hl => ?_)
  refine lv_aload_n E.1 E.2.1 dL_law_875 rfl (lv_at hl 4 rfl) ?_
  refine l_R (As := []) (rest := []) E hW (m_X7_thrown (sz := H.size) hct) rfl kw_1000 (⟨kw_1001, kw_1002, kw_8, kw_1003⟩ : wV yX7_thrown cX7_thrown 1 (some .int)) (⟨⟨by decide +kernel, by decide +kernel⟩, by decide +kernel⟩ : yOK yX7_thrown 0) ⟨rfl, rfl⟩ ⟨(Nat.le_of_ble_eq_true rfl), (Nat.le_of_ble_eq_true rfl)⟩ (lv_size hl) (Nat.le_of_ble_eq_true rfl) ⟨show cells + 6 ≤ 601024 by omega, show slots + 36 ≤ 7293034 by omega⟩ rfl dL_law_876 (fun H locs hW => ?_)
  refine W.eq (g2 := F0 m 879 ls [.int k]) rfl ?_
  refine lv_iload E.1 E.2.1 dL_law_879 (lv_at hl 1 rfl) ?_
  refine lv_icmp_eq (tgt := 886) E.1 E.2.1 dL_law_881 (by decide) (fun g => ?_) (fun g => absurd rfl g)
  refine lv_iload E.1 E.2.1 dL_law_886 (lv_at hl 1 rfl) ?_
  refine lv_if_ne (tgt := 903) E.1 E.2.1 dL_law_888 (by decide) (fun g => ?_) (fun g => ?_)
  · skip
    refine lv_goto (tgt := 1704) E.1 E.2.1 dL_law_903 (by decide) ?_
    exact kk (cells + 6) (slots + 36) _ _ _ (by omega) (by omega) hW (lv_sub hl [2, 3, 4, 5, 6] rfl)
  · have hk := hk g
    refine lv_aload_n E.1 E.2.1 dL_law_891 rfl (lv_at hl 5 rfl) ?_
    refine lv_iconst (v := (0 : Int32)) E.1 E.2.1 dL_law_892 (by decide) ?_
    refine r_lald E hW (q := 311) (n := 1) rfl vin01 dL_law_893 ?_
    refine W.eq (g2 := F0 m 894 ls [.long (ρ'.2 0 0)]) rfl ?_
    refine lv_iload E.1 E.2.1 dL_law_894 (lv_at hl 0 rfl) ?_
    refine lv_i2l E.1 E.2.1 dL_law_896 rfl ?_
    refine r_lc_eq E dL_law_897 dL_law_898 (tgt := 903) (by decide) (fun g2 => ?_) (fun g2 => absurd hk g2)
    refine lv_goto (tgt := 1704) E.1 E.2.1 dL_law_903 (by decide) ?_
    exact kk (cells + 6) (slots + 36) _ _ _ (by omega) (by omega) hW (lv_sub hl [2, 3, 4, 5, 6] rfl)
set_option maxHeartbeats 4000000 in
set_option maxRecDepth 100000 in
theorem L_subtract {p : Program} {l : Launch} {e : Env} {s : State} {m : MethodId} {args : Array Value} {below : List Frame} {meth : Method} {c : Code} {H : Heap} {locs : List Loc} {cells slots : Nat} {Q : State → Prop} {G : GP} {A0 : Nat → Prop} {σ τ ρ σ' τ' ρ' : St} {ls : Array Slot} {bs L : Nat} {xs : Nat → Int32} {i4 a1 a2 a3 a4 a5 : Int32} (E : En p m c s cL_law 7 RL G A0) (hN : Nc4 s) (hl9 : l.stackTraces = false) (hX : va_X bs L xs s s.heap) (hbl : bs < s.heap.size) (hbA : ¬ A0 bs) (hW : Wo G skA A0 s (jn σ τ ρ) H locs)
    (y1 : vp_in (i4 + 1) L ∧ xs (i4 + 1).toNatClampNeg = a1) (y2 : vp_in (i4 + 2) L ∧ xs (i4 + 2).toNatClampNeg = a2) (y3 : vp_in (i4 + 3) L ∧ xs (i4 + 3).toNatClampNeg = a3) (y4 : vp_in (i4 + 4) L ∧ xs (i4 + 4).toNatClampNeg = a4) (y5 : vp_in (i4 + 5) L ∧ xs (i4 + 5).toNatClampNeg = a5)
    (hl : lv_has ls 7 [(0, .ref bs), (1, .ref (G.2.2.2 + 0)), (2, .ref (G.2.2.2 + 258)), (3, .ref (G.2.2.2 + 311)), (4, .int i4)]) (hcs : cells + 8 ≤ 601024 ∧ slots + 48 ≤ 7293034) (h : wst (f_L_subtract a1 a2 a3 σ ρ) (f_X7_subtract 0 a1 a2 a3 τ) Int32.toInt64 = some (σ', τ', ρ'))
    (kk : ∀ (cells1 slots1 : Nat) (H1 : Heap) (locs1 : List Loc) (ls1 : Array Slot), cells1 ≤ cells + 8 → slots1 ≤ slots + 48 → Wo G skA A0 s (jn σ' τ' ρ') H1 locs1 → lv_has ls1 7 [(0, .ref bs), (1, .ref (G.2.2.2 + 0)), (2, .ref (G.2.2.2 + 258)), (3, .ref (G.2.2.2 + 311)), (4, .int i4)] → W p l e room_1 s m args below meth c H1 locs1 cells1 slots1 Q (F0 m 1704 ls1 [])) :
    W p l e room_1 s m args below meth c H locs cells slots Q (F0 m 906 ls []) := by
  obtain ⟨k, v, τ1, hc6, hc7, hct, hk⟩ := wst_r h
  refine lv_aload_n E.1 E.2.1 dL_law_906 rfl (lv_at hl 1 rfl) ?_
  refine lv_aload_n E.1 E.2.1 dL_law_907 rfl (lv_at hl 0 rfl) ?_
  refine lv_iload E.1 E.2.1 dL_law_908 (lv_at hl 4 rfl) ?_
  refine lv_iconst (v := (1 : Int32)) E.1 E.2.1 dL_law_910 (by decide) ?_
  refine lv_iadd E.1 E.2.1 dL_law_911 ?_
  refine va_sld E.1 E.2.1 hX hbl hbA hW.2.1 y1.1 dL_law_912 ?_
  rw [y1.2]
  refine lv_aload_n E.1 E.2.1 dL_law_913 rfl (lv_at hl 0 rfl) ?_
  refine lv_iload E.1 E.2.1 dL_law_914 (lv_at hl 4 rfl) ?_
  refine lv_iconst (v := (2 : Int32)) E.1 E.2.1 dL_law_916 (by decide) ?_
  refine lv_iadd E.1 E.2.1 dL_law_917 ?_
  refine va_sld E.1 E.2.1 hX hbl hbA hW.2.1 y2.1 dL_law_918 ?_
  rw [y2.2]
  refine lv_aload_n E.1 E.2.1 dL_law_919 rfl (lv_at hl 0 rfl) ?_
  refine lv_iload E.1 E.2.1 dL_law_920 (lv_at hl 4 rfl) ?_
  refine lv_iconst (v := (3 : Int32)) E.1 E.2.1 dL_law_922 (by decide) ?_
  refine lv_iadd E.1 E.2.1 dL_law_923 ?_
  refine va_sld E.1 E.2.1 hX hbl hbA hW.2.1 y3.1 dL_law_924 ?_
  rw [y3.2]
  refine lv_aload_n E.1 E.2.1 dL_law_925 rfl (lv_at hl 3 rfl) ?_
  refine c_SW (As := [.ref (G.2.2.2 + 0), .int a1, .int a2, .int a3, .ref (G.2.2.2 + 311)]) (rest := []) E hN hW (m_L_subtract (sz := H.size) (τ := τ) hl9 hc6) kw_804 ⟨kw_805, ini_L, kw_806⟩ (⟨⟨by decide +kernel, by decide +kernel⟩, by decide +kernel⟩ : yOK yL_subtract 5) ⟨rfl, rfl⟩ ⟨(Nat.le_of_ble_eq_true rfl), (Nat.le_of_ble_eq_true rfl)⟩ (lv_size hl) (Nat.le_of_ble_eq_true rfl) ⟨show cells + 6 ≤ 601024 by omega, show slots + 36 ≤ 7293034 by omega⟩ rfl dL_law_926 (fun H locs hW => ?_)
  refine W.eq (g2 := F0 m 929 ls [.int k]) rfl ?_
  refine lv_istore (lv' := [(5, .int k), (0, .ref bs), (1, .ref (G.2.2.2 + 0)), (2, .ref (G.2.2.2 + 258)), (3, .ref (G.2.2.2 + 311)), (4, .int i4)]) E.1 E.2.1 dL_law_929 hl (by decide) rfl (fun ls hl => ?_)
  refine lv_aload_n E.1 E.2.1 dL_law_931 rfl (lv_at hl 3 rfl) ?_
  refine lv_aload_n E.1 E.2.1 dL_law_932 rfl (lv_at hl 1 rfl) ?_
  refine lv_iload E.1 E.2.1 dL_law_933 (lv_at hl 5 rfl) ?_
  refine lv_iconst (v := (1 : Int32)) E.1 E.2.1 dL_law_935 (by decide) ?_
  refine lv_iadd E.1 E.2.1 dL_law_936 ?_
  refine va_sld E.1 E.2.1 hX hbl hbA hW.2.1 y1.1 dL_law_937 ?_
  rw [y1.2]
  refine lv_aload_n E.1 E.2.1 dL_law_938 rfl (lv_at hl 1 rfl) ?_
  refine lv_iload E.1 E.2.1 dL_law_939 (lv_at hl 5 rfl) ?_
  refine lv_iconst (v := (2 : Int32)) E.1 E.2.1 dL_law_941 (by decide) ?_
  refine lv_iadd E.1 E.2.1 dL_law_942 ?_
  refine va_sld E.1 E.2.1 hX hbl hbA hW.2.1 y2.1 dL_law_943 ?_
  rw [y2.2]
  refine lv_aload_n E.1 E.2.1 dL_law_944 rfl (lv_at hl 1 rfl) ?_
  refine lv_iload E.1 E.2.1 dL_law_945 (lv_at hl 5 rfl) ?_
  refine lv_iconst (v := (3 : Int32)) E.1 E.2.1 dL_law_947 (by decide) ?_
  refine lv_iadd E.1 E.2.1 dL_law_948 ?_
  refine va_sld E.1 E.2.1 hX hbl hbA hW.2.1 y3.1 dL_law_949 ?_
  rw [y3.2]
  refine l_R (As := [.int a1, .int a2, .int a3]) (rest := []) E hW (m_X7_subtract (sz := H.size) hc7) rfl kw_1258 (⟨kw_1259, kw_1260, kw_8, kw_1261⟩ : wV yX7_subtract cX7_subtract 4 (some .int)) (⟨⟨by decide +kernel, by decide +kernel⟩, by decide +kernel⟩ : yOK yX7_subtract 3) ⟨rfl, rfl⟩ ⟨(Nat.le_of_ble_eq_true rfl), (Nat.le_of_ble_eq_true rfl)⟩ (lv_size hl) (Nat.le_of_ble_eq_true rfl) ⟨show cells + 6 ≤ 601024 by omega, show slots + 36 ≤ 7293034 by omega⟩ rfl dL_law_950 (fun H locs hW => ?_)
  refine W.eq (g2 := F0 m 953 ls [.int v]) rfl ?_
  refine lv_istore (lv' := [(6, .int v), (5, .int k), (0, .ref bs), (1, .ref (G.2.2.2 + 0)), (2, .ref (G.2.2.2 + 258)), (3, .ref (G.2.2.2 + 311)), (4, .int i4)]) E.1 E.2.1 dL_law_953 hl (by decide) rfl (fun ls hl => ?_)
  refine lv_aload_n E.1 E.2.1 dL_law_955 rfl (lv_at hl 4 rfl) ?_
  refine l_R (As := []) (rest := []) E hW (m_X7_thrown (sz := H.size) hct) rfl kw_1000 (⟨kw_1001, kw_1002, kw_8, kw_1003⟩ : wV yX7_thrown cX7_thrown 1 (some .int)) (⟨⟨by decide +kernel, by decide +kernel⟩, by decide +kernel⟩ : yOK yX7_thrown 0) ⟨rfl, rfl⟩ ⟨(Nat.le_of_ble_eq_true rfl), (Nat.le_of_ble_eq_true rfl)⟩ (lv_size hl) (Nat.le_of_ble_eq_true rfl) ⟨show cells + 6 ≤ 601024 by omega, show slots + 36 ≤ 7293034 by omega⟩ rfl dL_law_956 (fun H locs hW => ?_)
  refine W.eq (g2 := F0 m 959 ls [.int k]) rfl ?_
  refine lv_iload E.1 E.2.1 dL_law_959 (lv_at hl 1 rfl) ?_
  refine lv_icmp_eq (tgt := 966) E.1 E.2.1 dL_law_961 (by decide) (fun g => ?_) (fun g => absurd rfl g)
  refine lv_iload E.1 E.2.1 dL_law_966 (lv_at hl 1 rfl) ?_
  refine lv_if_ne (tgt := 983) E.1 E.2.1 dL_law_968 (by decide) (fun g => ?_) (fun g => ?_)
  · skip
    refine lv_goto (tgt := 1704) E.1 E.2.1 dL_law_983 (by decide) ?_
    exact kk (cells + 6) (slots + 36) _ _ _ (by omega) (by omega) hW (lv_sub hl [2, 3, 4, 5, 6] rfl)
  · have hk := hk g
    refine lv_aload_n E.1 E.2.1 dL_law_971 rfl (lv_at hl 5 rfl) ?_
    refine lv_iconst (v := (0 : Int32)) E.1 E.2.1 dL_law_972 (by decide) ?_
    refine r_lald E hW (q := 311) (n := 1) rfl vin01 dL_law_973 ?_
    refine W.eq (g2 := F0 m 974 ls [.long (ρ'.2 0 0)]) rfl ?_
    refine lv_iload E.1 E.2.1 dL_law_974 (lv_at hl 0 rfl) ?_
    refine lv_i2l E.1 E.2.1 dL_law_976 rfl ?_
    refine r_lc_eq E dL_law_977 dL_law_978 (tgt := 983) (by decide) (fun g2 => ?_) (fun g2 => absurd hk g2)
    refine lv_goto (tgt := 1704) E.1 E.2.1 dL_law_983 (by decide) ?_
    exact kk (cells + 6) (slots + 36) _ _ _ (by omega) (by omega) hW (lv_sub hl [2, 3, 4, 5, 6] rfl)
set_option maxHeartbeats 4000000 in
set_option maxRecDepth 100000 in
theorem L_multiply {p : Program} {l : Launch} {e : Env} {s : State} {m : MethodId} {args : Array Value} {below : List Frame} {meth : Method} {c : Code} {H : Heap} {locs : List Loc} {cells slots : Nat} {Q : State → Prop} {G : GP} {A0 : Nat → Prop} {σ τ ρ σ' τ' ρ' : St} {ls : Array Slot} {bs L : Nat} {xs : Nat → Int32} {i4 a1 a2 a3 a4 a5 : Int32} (E : En p m c s cL_law 7 RL G A0) (hN : Nc4 s) (hl9 : l.stackTraces = false) (hX : va_X bs L xs s s.heap) (hbl : bs < s.heap.size) (hbA : ¬ A0 bs) (hW : Wo G skA A0 s (jn σ τ ρ) H locs)
    (y1 : vp_in (i4 + 1) L ∧ xs (i4 + 1).toNatClampNeg = a1) (y2 : vp_in (i4 + 2) L ∧ xs (i4 + 2).toNatClampNeg = a2) (y3 : vp_in (i4 + 3) L ∧ xs (i4 + 3).toNatClampNeg = a3) (y4 : vp_in (i4 + 4) L ∧ xs (i4 + 4).toNatClampNeg = a4) (y5 : vp_in (i4 + 5) L ∧ xs (i4 + 5).toNatClampNeg = a5)
    (hl : lv_has ls 7 [(0, .ref bs), (1, .ref (G.2.2.2 + 0)), (2, .ref (G.2.2.2 + 258)), (3, .ref (G.2.2.2 + 311)), (4, .int i4)]) (hcs : cells + 8 ≤ 601024 ∧ slots + 48 ≤ 7293034) (h : wst (f_L_multiply a1 a2 a3 σ ρ) (f_X7_multiply 0 a1 a2 a3 τ) Int32.toInt64 = some (σ', τ', ρ'))
    (kk : ∀ (cells1 slots1 : Nat) (H1 : Heap) (locs1 : List Loc) (ls1 : Array Slot), cells1 ≤ cells + 8 → slots1 ≤ slots + 48 → Wo G skA A0 s (jn σ' τ' ρ') H1 locs1 → lv_has ls1 7 [(0, .ref bs), (1, .ref (G.2.2.2 + 0)), (2, .ref (G.2.2.2 + 258)), (3, .ref (G.2.2.2 + 311)), (4, .int i4)] → W p l e room_1 s m args below meth c H1 locs1 cells1 slots1 Q (F0 m 1704 ls1 [])) :
    W p l e room_1 s m args below meth c H locs cells slots Q (F0 m 986 ls []) := by
  obtain ⟨k, v, τ1, hc6, hc7, hct, hk⟩ := wst_r h
  refine lv_aload_n E.1 E.2.1 dL_law_986 rfl (lv_at hl 1 rfl) ?_
  refine lv_aload_n E.1 E.2.1 dL_law_987 rfl (lv_at hl 0 rfl) ?_
  refine lv_iload E.1 E.2.1 dL_law_988 (lv_at hl 4 rfl) ?_
  refine lv_iconst (v := (1 : Int32)) E.1 E.2.1 dL_law_990 (by decide) ?_
  refine lv_iadd E.1 E.2.1 dL_law_991 ?_
  refine va_sld E.1 E.2.1 hX hbl hbA hW.2.1 y1.1 dL_law_992 ?_
  rw [y1.2]
  refine lv_aload_n E.1 E.2.1 dL_law_993 rfl (lv_at hl 0 rfl) ?_
  refine lv_iload E.1 E.2.1 dL_law_994 (lv_at hl 4 rfl) ?_
  refine lv_iconst (v := (2 : Int32)) E.1 E.2.1 dL_law_996 (by decide) ?_
  refine lv_iadd E.1 E.2.1 dL_law_997 ?_
  refine va_sld E.1 E.2.1 hX hbl hbA hW.2.1 y2.1 dL_law_998 ?_
  rw [y2.2]
  refine lv_aload_n E.1 E.2.1 dL_law_999 rfl (lv_at hl 0 rfl) ?_
  refine lv_iload E.1 E.2.1 dL_law_1000 (lv_at hl 4 rfl) ?_
  refine lv_iconst (v := (3 : Int32)) E.1 E.2.1 dL_law_1002 (by decide) ?_
  refine lv_iadd E.1 E.2.1 dL_law_1003 ?_
  refine va_sld E.1 E.2.1 hX hbl hbA hW.2.1 y3.1 dL_law_1004 ?_
  rw [y3.2]
  refine lv_aload_n E.1 E.2.1 dL_law_1005 rfl (lv_at hl 3 rfl) ?_
  refine c_SW (As := [.ref (G.2.2.2 + 0), .int a1, .int a2, .int a3, .ref (G.2.2.2 + 311)]) (rest := []) E hN hW (m_L_multiply (sz := H.size) (τ := τ) hl9 hc6) kw_812 ⟨kw_813, ini_L, kw_814⟩ (⟨⟨by decide +kernel, by decide +kernel⟩, by decide +kernel⟩ : yOK yL_multiply 5) ⟨rfl, rfl⟩ ⟨(Nat.le_of_ble_eq_true rfl), (Nat.le_of_ble_eq_true rfl)⟩ (lv_size hl) (Nat.le_of_ble_eq_true rfl) ⟨show cells + 6 ≤ 601024 by omega, show slots + 36 ≤ 7293034 by omega⟩ rfl dL_law_1006 (fun H locs hW => ?_)
  refine W.eq (g2 := F0 m 1009 ls [.int k]) rfl ?_
  refine lv_istore (lv' := [(5, .int k), (0, .ref bs), (1, .ref (G.2.2.2 + 0)), (2, .ref (G.2.2.2 + 258)), (3, .ref (G.2.2.2 + 311)), (4, .int i4)]) E.1 E.2.1 dL_law_1009 hl (by decide) rfl (fun ls hl => ?_)
  refine lv_aload_n E.1 E.2.1 dL_law_1011 rfl (lv_at hl 3 rfl) ?_
  refine lv_aload_n E.1 E.2.1 dL_law_1012 rfl (lv_at hl 1 rfl) ?_
  refine lv_iload E.1 E.2.1 dL_law_1013 (lv_at hl 5 rfl) ?_
  refine lv_iconst (v := (1 : Int32)) E.1 E.2.1 dL_law_1015 (by decide) ?_
  refine lv_iadd E.1 E.2.1 dL_law_1016 ?_
  refine va_sld E.1 E.2.1 hX hbl hbA hW.2.1 y1.1 dL_law_1017 ?_
  rw [y1.2]
  refine lv_aload_n E.1 E.2.1 dL_law_1018 rfl (lv_at hl 1 rfl) ?_
  refine lv_iload E.1 E.2.1 dL_law_1019 (lv_at hl 5 rfl) ?_
  refine lv_iconst (v := (2 : Int32)) E.1 E.2.1 dL_law_1021 (by decide) ?_
  refine lv_iadd E.1 E.2.1 dL_law_1022 ?_
  refine va_sld E.1 E.2.1 hX hbl hbA hW.2.1 y2.1 dL_law_1023 ?_
  rw [y2.2]
  refine lv_aload_n E.1 E.2.1 dL_law_1024 rfl (lv_at hl 1 rfl) ?_
  refine lv_iload E.1 E.2.1 dL_law_1025 (lv_at hl 5 rfl) ?_
  refine lv_iconst (v := (3 : Int32)) E.1 E.2.1 dL_law_1027 (by decide) ?_
  refine lv_iadd E.1 E.2.1 dL_law_1028 ?_
  refine va_sld E.1 E.2.1 hX hbl hbA hW.2.1 y3.1 dL_law_1029 ?_
  rw [y3.2]
  refine l_R (As := [.int a1, .int a2, .int a3]) (rest := []) E hW (m_X7_multiply (sz := H.size) hc7) rfl kw_1262 (⟨kw_1263, kw_1264, kw_8, kw_1265⟩ : wV yX7_multiply cX7_multiply 4 (some .int)) (⟨⟨by decide +kernel, by decide +kernel⟩, by decide +kernel⟩ : yOK yX7_multiply 3) ⟨rfl, rfl⟩ ⟨(Nat.le_of_ble_eq_true rfl), (Nat.le_of_ble_eq_true rfl)⟩ (lv_size hl) (Nat.le_of_ble_eq_true rfl) ⟨show cells + 6 ≤ 601024 by omega, show slots + 36 ≤ 7293034 by omega⟩ rfl dL_law_1030 (fun H locs hW => ?_)
  refine W.eq (g2 := F0 m 1033 ls [.int v]) rfl ?_
  refine lv_istore (lv' := [(6, .int v), (5, .int k), (0, .ref bs), (1, .ref (G.2.2.2 + 0)), (2, .ref (G.2.2.2 + 258)), (3, .ref (G.2.2.2 + 311)), (4, .int i4)]) E.1 E.2.1 dL_law_1033 hl (by decide) rfl (fun ls hl => ?_)
  refine lv_aload_n E.1 E.2.1 dL_law_1035 rfl (lv_at hl 4 rfl) ?_
  refine l_R (As := []) (rest := []) E hW (m_X7_thrown (sz := H.size) hct) rfl kw_1000 (⟨kw_1001, kw_1002, kw_8, kw_1003⟩ : wV yX7_thrown cX7_thrown 1 (some .int)) (⟨⟨by decide +kernel, by decide +kernel⟩, by decide +kernel⟩ : yOK yX7_thrown 0) ⟨rfl, rfl⟩ ⟨(Nat.le_of_ble_eq_true rfl), (Nat.le_of_ble_eq_true rfl)⟩ (lv_size hl) (Nat.le_of_ble_eq_true rfl) ⟨show cells + 6 ≤ 601024 by omega, show slots + 36 ≤ 7293034 by omega⟩ rfl dL_law_1036 (fun H locs hW => ?_)
  refine W.eq (g2 := F0 m 1039 ls [.int k]) rfl ?_
  refine lv_iload E.1 E.2.1 dL_law_1039 (lv_at hl 1 rfl) ?_
  refine lv_icmp_eq (tgt := 1046) E.1 E.2.1 dL_law_1041 (by decide) (fun g => ?_) (fun g => absurd rfl g)
  refine lv_iload E.1 E.2.1 dL_law_1046 (lv_at hl 1 rfl) ?_
  refine lv_if_ne (tgt := 1063) E.1 E.2.1 dL_law_1048 (by decide) (fun g => ?_) (fun g => ?_)
  · skip
    refine lv_goto (tgt := 1704) E.1 E.2.1 dL_law_1063 (by decide) ?_
    exact kk (cells + 6) (slots + 36) _ _ _ (by omega) (by omega) hW (lv_sub hl [2, 3, 4, 5, 6] rfl)
  · have hk := hk g
    refine lv_aload_n E.1 E.2.1 dL_law_1051 rfl (lv_at hl 5 rfl) ?_
    refine lv_iconst (v := (0 : Int32)) E.1 E.2.1 dL_law_1052 (by decide) ?_
    refine r_lald E hW (q := 311) (n := 1) rfl vin01 dL_law_1053 ?_
    refine W.eq (g2 := F0 m 1054 ls [.long (ρ'.2 0 0)]) rfl ?_
    refine lv_iload E.1 E.2.1 dL_law_1054 (lv_at hl 0 rfl) ?_
    refine lv_i2l E.1 E.2.1 dL_law_1056 rfl ?_
    refine r_lc_eq E dL_law_1057 dL_law_1058 (tgt := 1063) (by decide) (fun g2 => ?_) (fun g2 => absurd hk g2)
    refine lv_goto (tgt := 1704) E.1 E.2.1 dL_law_1063 (by decide) ?_
    exact kk (cells + 6) (slots + 36) _ _ _ (by omega) (by omega) hW (lv_sub hl [2, 3, 4, 5, 6] rfl)
set_option maxHeartbeats 4000000 in
set_option maxRecDepth 100000 in
theorem L_compose {p : Program} {l : Launch} {e : Env} {s : State} {m : MethodId} {args : Array Value} {below : List Frame} {meth : Method} {c : Code} {H : Heap} {locs : List Loc} {cells slots : Nat} {Q : State → Prop} {G : GP} {A0 : Nat → Prop} {σ τ ρ σ' τ' ρ' : St} {ls : Array Slot} {bs L : Nat} {xs : Nat → Int32} {i4 a1 a2 a3 a4 a5 : Int32} (E : En p m c s cL_law 7 RL G A0) (hN : Nc4 s) (hl9 : l.stackTraces = false) (hX : va_X bs L xs s s.heap) (hbl : bs < s.heap.size) (hbA : ¬ A0 bs) (hW : Wo G skA A0 s (jn σ τ ρ) H locs)
    (y1 : vp_in (i4 + 1) L ∧ xs (i4 + 1).toNatClampNeg = a1) (y2 : vp_in (i4 + 2) L ∧ xs (i4 + 2).toNatClampNeg = a2) (y3 : vp_in (i4 + 3) L ∧ xs (i4 + 3).toNatClampNeg = a3) (y4 : vp_in (i4 + 4) L ∧ xs (i4 + 4).toNatClampNeg = a4) (y5 : vp_in (i4 + 5) L ∧ xs (i4 + 5).toNatClampNeg = a5)
    (hl : lv_has ls 7 [(0, .ref bs), (1, .ref (G.2.2.2 + 0)), (2, .ref (G.2.2.2 + 258)), (3, .ref (G.2.2.2 + 311)), (4, .int i4)]) (hcs : cells + 8 ≤ 601024 ∧ slots + 48 ≤ 7293034) (h : wst (f_L_compose a1 a2 a3 a4 σ ρ) (f_X7_compose 0 a1 a2 a3 a4 τ) Int32.toInt64 = some (σ', τ', ρ'))
    (kk : ∀ (cells1 slots1 : Nat) (H1 : Heap) (locs1 : List Loc) (ls1 : Array Slot), cells1 ≤ cells + 8 → slots1 ≤ slots + 48 → Wo G skA A0 s (jn σ' τ' ρ') H1 locs1 → lv_has ls1 7 [(0, .ref bs), (1, .ref (G.2.2.2 + 0)), (2, .ref (G.2.2.2 + 258)), (3, .ref (G.2.2.2 + 311)), (4, .int i4)] → W p l e room_1 s m args below meth c H1 locs1 cells1 slots1 Q (F0 m 1704 ls1 [])) :
    W p l e room_1 s m args below meth c H locs cells slots Q (F0 m 1066 ls []) := by
  obtain ⟨k, v, τ1, hc6, hc7, hct, hk⟩ := wst_r h
  refine lv_aload_n E.1 E.2.1 dL_law_1066 rfl (lv_at hl 1 rfl) ?_
  refine lv_aload_n E.1 E.2.1 dL_law_1067 rfl (lv_at hl 0 rfl) ?_
  refine lv_iload E.1 E.2.1 dL_law_1068 (lv_at hl 4 rfl) ?_
  refine lv_iconst (v := (1 : Int32)) E.1 E.2.1 dL_law_1070 (by decide) ?_
  refine lv_iadd E.1 E.2.1 dL_law_1071 ?_
  refine va_sld E.1 E.2.1 hX hbl hbA hW.2.1 y1.1 dL_law_1072 ?_
  rw [y1.2]
  refine lv_aload_n E.1 E.2.1 dL_law_1073 rfl (lv_at hl 0 rfl) ?_
  refine lv_iload E.1 E.2.1 dL_law_1074 (lv_at hl 4 rfl) ?_
  refine lv_iconst (v := (2 : Int32)) E.1 E.2.1 dL_law_1076 (by decide) ?_
  refine lv_iadd E.1 E.2.1 dL_law_1077 ?_
  refine va_sld E.1 E.2.1 hX hbl hbA hW.2.1 y2.1 dL_law_1078 ?_
  rw [y2.2]
  refine lv_aload_n E.1 E.2.1 dL_law_1079 rfl (lv_at hl 0 rfl) ?_
  refine lv_iload E.1 E.2.1 dL_law_1080 (lv_at hl 4 rfl) ?_
  refine lv_iconst (v := (3 : Int32)) E.1 E.2.1 dL_law_1082 (by decide) ?_
  refine lv_iadd E.1 E.2.1 dL_law_1083 ?_
  refine va_sld E.1 E.2.1 hX hbl hbA hW.2.1 y3.1 dL_law_1084 ?_
  rw [y3.2]
  refine lv_aload_n E.1 E.2.1 dL_law_1085 rfl (lv_at hl 0 rfl) ?_
  refine lv_iload E.1 E.2.1 dL_law_1086 (lv_at hl 4 rfl) ?_
  refine lv_iconst (v := (4 : Int32)) E.1 E.2.1 dL_law_1088 (by decide) ?_
  refine lv_iadd E.1 E.2.1 dL_law_1089 ?_
  refine va_sld E.1 E.2.1 hX hbl hbA hW.2.1 y4.1 dL_law_1090 ?_
  rw [y4.2]
  refine lv_aload_n E.1 E.2.1 dL_law_1091 rfl (lv_at hl 3 rfl) ?_
  refine c_SW (As := [.ref (G.2.2.2 + 0), .int a1, .int a2, .int a3, .int a4, .ref (G.2.2.2 + 311)]) (rest := []) E hN hW (m_L_compose (sz := H.size) (τ := τ) hl9 hc6) kw_820 ⟨kw_821, ini_L, kw_822⟩ (⟨⟨by decide +kernel, by decide +kernel⟩, by decide +kernel⟩ : yOK yL_compose 6) ⟨rfl, rfl⟩ ⟨(Nat.le_of_ble_eq_true rfl), (Nat.le_of_ble_eq_true rfl)⟩ (lv_size hl) (Nat.le_of_ble_eq_true rfl) ⟨show cells + 8 ≤ 601024 by omega, show slots + 48 ≤ 7293034 by omega⟩ rfl dL_law_1092 (fun H locs hW => ?_)
  refine W.eq (g2 := F0 m 1095 ls [.int k]) rfl ?_
  refine lv_istore (lv' := [(5, .int k), (0, .ref bs), (1, .ref (G.2.2.2 + 0)), (2, .ref (G.2.2.2 + 258)), (3, .ref (G.2.2.2 + 311)), (4, .int i4)]) E.1 E.2.1 dL_law_1095 hl (by decide) rfl (fun ls hl => ?_)
  refine lv_aload_n E.1 E.2.1 dL_law_1097 rfl (lv_at hl 3 rfl) ?_
  refine lv_aload_n E.1 E.2.1 dL_law_1098 rfl (lv_at hl 1 rfl) ?_
  refine lv_iload E.1 E.2.1 dL_law_1099 (lv_at hl 5 rfl) ?_
  refine lv_iconst (v := (1 : Int32)) E.1 E.2.1 dL_law_1101 (by decide) ?_
  refine lv_iadd E.1 E.2.1 dL_law_1102 ?_
  refine va_sld E.1 E.2.1 hX hbl hbA hW.2.1 y1.1 dL_law_1103 ?_
  rw [y1.2]
  refine lv_aload_n E.1 E.2.1 dL_law_1104 rfl (lv_at hl 1 rfl) ?_
  refine lv_iload E.1 E.2.1 dL_law_1105 (lv_at hl 5 rfl) ?_
  refine lv_iconst (v := (2 : Int32)) E.1 E.2.1 dL_law_1107 (by decide) ?_
  refine lv_iadd E.1 E.2.1 dL_law_1108 ?_
  refine va_sld E.1 E.2.1 hX hbl hbA hW.2.1 y2.1 dL_law_1109 ?_
  rw [y2.2]
  refine lv_aload_n E.1 E.2.1 dL_law_1110 rfl (lv_at hl 1 rfl) ?_
  refine lv_iload E.1 E.2.1 dL_law_1111 (lv_at hl 5 rfl) ?_
  refine lv_iconst (v := (3 : Int32)) E.1 E.2.1 dL_law_1113 (by decide) ?_
  refine lv_iadd E.1 E.2.1 dL_law_1114 ?_
  refine va_sld E.1 E.2.1 hX hbl hbA hW.2.1 y3.1 dL_law_1115 ?_
  rw [y3.2]
  refine lv_aload_n E.1 E.2.1 dL_law_1116 rfl (lv_at hl 1 rfl) ?_
  refine lv_iload E.1 E.2.1 dL_law_1117 (lv_at hl 5 rfl) ?_
  refine lv_iconst (v := (4 : Int32)) E.1 E.2.1 dL_law_1119 (by decide) ?_
  refine lv_iadd E.1 E.2.1 dL_law_1120 ?_
  refine va_sld E.1 E.2.1 hX hbl hbA hW.2.1 y4.1 dL_law_1121 ?_
  rw [y4.2]
  refine l_R (As := [.int a1, .int a2, .int a3, .int a4]) (rest := []) E hW (m_X7_compose (sz := H.size) hc7) rfl kw_1266 (⟨kw_1267, kw_1268, kw_8, kw_1269⟩ : wV yX7_compose cX7_compose 5 (some .int)) (⟨⟨by decide +kernel, by decide +kernel⟩, by decide +kernel⟩ : yOK yX7_compose 4) ⟨rfl, rfl⟩ ⟨(Nat.le_of_ble_eq_true rfl), (Nat.le_of_ble_eq_true rfl)⟩ (lv_size hl) (Nat.le_of_ble_eq_true rfl) ⟨show cells + 8 ≤ 601024 by omega, show slots + 48 ≤ 7293034 by omega⟩ rfl dL_law_1122 (fun H locs hW => ?_)
  refine W.eq (g2 := F0 m 1125 ls [.int v]) rfl ?_
  refine lv_istore (lv' := [(6, .int v), (5, .int k), (0, .ref bs), (1, .ref (G.2.2.2 + 0)), (2, .ref (G.2.2.2 + 258)), (3, .ref (G.2.2.2 + 311)), (4, .int i4)]) E.1 E.2.1 dL_law_1125 hl (by decide) rfl (fun ls hl => ?_)
  refine lv_aload_n E.1 E.2.1 dL_law_1127 rfl (lv_at hl 4 rfl) ?_
  refine l_R (As := []) (rest := []) E hW (m_X7_thrown (sz := H.size) hct) rfl kw_1000 (⟨kw_1001, kw_1002, kw_8, kw_1003⟩ : wV yX7_thrown cX7_thrown 1 (some .int)) (⟨⟨by decide +kernel, by decide +kernel⟩, by decide +kernel⟩ : yOK yX7_thrown 0) ⟨rfl, rfl⟩ ⟨(Nat.le_of_ble_eq_true rfl), (Nat.le_of_ble_eq_true rfl)⟩ (lv_size hl) (Nat.le_of_ble_eq_true rfl) ⟨show cells + 8 ≤ 601024 by omega, show slots + 48 ≤ 7293034 by omega⟩ rfl dL_law_1128 (fun H locs hW => ?_)
  refine W.eq (g2 := F0 m 1131 ls [.int k]) rfl ?_
  refine lv_iload E.1 E.2.1 dL_law_1131 (lv_at hl 1 rfl) ?_
  refine lv_icmp_eq (tgt := 1138) E.1 E.2.1 dL_law_1133 (by decide) (fun g => ?_) (fun g => absurd rfl g)
  refine lv_iload E.1 E.2.1 dL_law_1138 (lv_at hl 1 rfl) ?_
  refine lv_if_ne (tgt := 1155) E.1 E.2.1 dL_law_1140 (by decide) (fun g => ?_) (fun g => ?_)
  · skip
    refine lv_goto (tgt := 1704) E.1 E.2.1 dL_law_1155 (by decide) ?_
    exact kk (cells + 8) (slots + 48) _ _ _ (by omega) (by omega) hW (lv_sub hl [2, 3, 4, 5, 6] rfl)
  · have hk := hk g
    refine lv_aload_n E.1 E.2.1 dL_law_1143 rfl (lv_at hl 5 rfl) ?_
    refine lv_iconst (v := (0 : Int32)) E.1 E.2.1 dL_law_1144 (by decide) ?_
    refine r_lald E hW (q := 311) (n := 1) rfl vin01 dL_law_1145 ?_
    refine W.eq (g2 := F0 m 1146 ls [.long (ρ'.2 0 0)]) rfl ?_
    refine lv_iload E.1 E.2.1 dL_law_1146 (lv_at hl 0 rfl) ?_
    refine lv_i2l E.1 E.2.1 dL_law_1148 rfl ?_
    refine r_lc_eq E dL_law_1149 dL_law_1150 (tgt := 1155) (by decide) (fun g2 => ?_) (fun g2 => absurd hk g2)
    refine lv_goto (tgt := 1704) E.1 E.2.1 dL_law_1155 (by decide) ?_
    exact kk (cells + 8) (slots + 48) _ _ _ (by omega) (by omega) hW (lv_sub hl [2, 3, 4, 5, 6] rfl)
set_option maxHeartbeats 4000000 in
set_option maxRecDepth 100000 in
theorem L_integrate {p : Program} {l : Launch} {e : Env} {s : State} {m : MethodId} {args : Array Value} {below : List Frame} {meth : Method} {c : Code} {H : Heap} {locs : List Loc} {cells slots : Nat} {Q : State → Prop} {G : GP} {A0 : Nat → Prop} {σ τ ρ σ' τ' ρ' : St} {ls : Array Slot} {bs L : Nat} {xs : Nat → Int32} {i4 a1 a2 a3 a4 a5 : Int32} (E : En p m c s cL_law 7 RL G A0) (hN : Nc4 s) (hl9 : l.stackTraces = false) (hX : va_X bs L xs s s.heap) (hbl : bs < s.heap.size) (hbA : ¬ A0 bs) (hW : Wo G skA A0 s (jn σ τ ρ) H locs)
    (y1 : vp_in (i4 + 1) L ∧ xs (i4 + 1).toNatClampNeg = a1) (y2 : vp_in (i4 + 2) L ∧ xs (i4 + 2).toNatClampNeg = a2) (y3 : vp_in (i4 + 3) L ∧ xs (i4 + 3).toNatClampNeg = a3) (y4 : vp_in (i4 + 4) L ∧ xs (i4 + 4).toNatClampNeg = a4) (y5 : vp_in (i4 + 5) L ∧ xs (i4 + 5).toNatClampNeg = a5)
    (hl : lv_has ls 7 [(0, .ref bs), (1, .ref (G.2.2.2 + 0)), (2, .ref (G.2.2.2 + 258)), (3, .ref (G.2.2.2 + 311)), (4, .int i4)]) (hcs : cells + 8 ≤ 601024 ∧ slots + 48 ≤ 7293034) (h : wst (f_L_integrate a1 a2 a3 σ ρ) (f_X7_integrate 0 a1 a2 a3 τ) Int32.toInt64 = some (σ', τ', ρ'))
    (kk : ∀ (cells1 slots1 : Nat) (H1 : Heap) (locs1 : List Loc) (ls1 : Array Slot), cells1 ≤ cells + 8 → slots1 ≤ slots + 48 → Wo G skA A0 s (jn σ' τ' ρ') H1 locs1 → lv_has ls1 7 [(0, .ref bs), (1, .ref (G.2.2.2 + 0)), (2, .ref (G.2.2.2 + 258)), (3, .ref (G.2.2.2 + 311)), (4, .int i4)] → W p l e room_1 s m args below meth c H1 locs1 cells1 slots1 Q (F0 m 1704 ls1 [])) :
    W p l e room_1 s m args below meth c H locs cells slots Q (F0 m 1158 ls []) := by
  obtain ⟨k, v, τ1, hc6, hc7, hct, hk⟩ := wst_r h
  refine lv_aload_n E.1 E.2.1 dL_law_1158 rfl (lv_at hl 1 rfl) ?_
  refine lv_aload_n E.1 E.2.1 dL_law_1159 rfl (lv_at hl 0 rfl) ?_
  refine lv_iload E.1 E.2.1 dL_law_1160 (lv_at hl 4 rfl) ?_
  refine lv_iconst (v := (1 : Int32)) E.1 E.2.1 dL_law_1162 (by decide) ?_
  refine lv_iadd E.1 E.2.1 dL_law_1163 ?_
  refine va_sld E.1 E.2.1 hX hbl hbA hW.2.1 y1.1 dL_law_1164 ?_
  rw [y1.2]
  refine lv_aload_n E.1 E.2.1 dL_law_1165 rfl (lv_at hl 0 rfl) ?_
  refine lv_iload E.1 E.2.1 dL_law_1166 (lv_at hl 4 rfl) ?_
  refine lv_iconst (v := (2 : Int32)) E.1 E.2.1 dL_law_1168 (by decide) ?_
  refine lv_iadd E.1 E.2.1 dL_law_1169 ?_
  refine va_sld E.1 E.2.1 hX hbl hbA hW.2.1 y2.1 dL_law_1170 ?_
  rw [y2.2]
  refine lv_aload_n E.1 E.2.1 dL_law_1171 rfl (lv_at hl 0 rfl) ?_
  refine lv_iload E.1 E.2.1 dL_law_1172 (lv_at hl 4 rfl) ?_
  refine lv_iconst (v := (3 : Int32)) E.1 E.2.1 dL_law_1174 (by decide) ?_
  refine lv_iadd E.1 E.2.1 dL_law_1175 ?_
  refine va_sld E.1 E.2.1 hX hbl hbA hW.2.1 y3.1 dL_law_1176 ?_
  rw [y3.2]
  refine lv_aload_n E.1 E.2.1 dL_law_1177 rfl (lv_at hl 3 rfl) ?_
  refine c_SW (As := [.ref (G.2.2.2 + 0), .int a1, .int a2, .int a3, .ref (G.2.2.2 + 311)]) (rest := []) E hN hW (m_L_integrate (sz := H.size) (τ := τ) hl9 hc6) kw_827 ⟨kw_828, ini_L, kw_829⟩ (⟨⟨by decide +kernel, by decide +kernel⟩, by decide +kernel⟩ : yOK yL_integrate 5) ⟨rfl, rfl⟩ ⟨(Nat.le_of_ble_eq_true rfl), (Nat.le_of_ble_eq_true rfl)⟩ (lv_size hl) (Nat.le_of_ble_eq_true rfl) ⟨show cells + 5 ≤ 601024 by omega, show slots + 30 ≤ 7293034 by omega⟩ rfl dL_law_1178 (fun H locs hW => ?_)
  refine W.eq (g2 := F0 m 1181 ls [.int k]) rfl ?_
  refine lv_istore (lv' := [(5, .int k), (0, .ref bs), (1, .ref (G.2.2.2 + 0)), (2, .ref (G.2.2.2 + 258)), (3, .ref (G.2.2.2 + 311)), (4, .int i4)]) E.1 E.2.1 dL_law_1181 hl (by decide) rfl (fun ls hl => ?_)
  refine lv_aload_n E.1 E.2.1 dL_law_1183 rfl (lv_at hl 3 rfl) ?_
  refine lv_aload_n E.1 E.2.1 dL_law_1184 rfl (lv_at hl 1 rfl) ?_
  refine lv_iload E.1 E.2.1 dL_law_1185 (lv_at hl 5 rfl) ?_
  refine lv_iconst (v := (1 : Int32)) E.1 E.2.1 dL_law_1187 (by decide) ?_
  refine lv_iadd E.1 E.2.1 dL_law_1188 ?_
  refine va_sld E.1 E.2.1 hX hbl hbA hW.2.1 y1.1 dL_law_1189 ?_
  rw [y1.2]
  refine lv_aload_n E.1 E.2.1 dL_law_1190 rfl (lv_at hl 1 rfl) ?_
  refine lv_iload E.1 E.2.1 dL_law_1191 (lv_at hl 5 rfl) ?_
  refine lv_iconst (v := (2 : Int32)) E.1 E.2.1 dL_law_1193 (by decide) ?_
  refine lv_iadd E.1 E.2.1 dL_law_1194 ?_
  refine va_sld E.1 E.2.1 hX hbl hbA hW.2.1 y2.1 dL_law_1195 ?_
  rw [y2.2]
  refine lv_aload_n E.1 E.2.1 dL_law_1196 rfl (lv_at hl 1 rfl) ?_
  refine lv_iload E.1 E.2.1 dL_law_1197 (lv_at hl 5 rfl) ?_
  refine lv_iconst (v := (3 : Int32)) E.1 E.2.1 dL_law_1199 (by decide) ?_
  refine lv_iadd E.1 E.2.1 dL_law_1200 ?_
  refine va_sld E.1 E.2.1 hX hbl hbA hW.2.1 y3.1 dL_law_1201 ?_
  rw [y3.2]
  refine l_R (As := [.int a1, .int a2, .int a3]) (rest := []) E hW (m_X7_integrate (sz := H.size) hc7) rfl kw_1270 (⟨kw_1271, kw_1272, kw_8, kw_1273⟩ : wV yX7_integrate cX7_integrate 4 (some .int)) (⟨⟨by decide +kernel, by decide +kernel⟩, by decide +kernel⟩ : yOK yX7_integrate 3) ⟨rfl, rfl⟩ ⟨(Nat.le_of_ble_eq_true rfl), (Nat.le_of_ble_eq_true rfl)⟩ (lv_size hl) (Nat.le_of_ble_eq_true rfl) ⟨show cells + 5 ≤ 601024 by omega, show slots + 30 ≤ 7293034 by omega⟩ rfl dL_law_1202 (fun H locs hW => ?_)
  refine W.eq (g2 := F0 m 1205 ls [.int v]) rfl ?_
  refine lv_istore (lv' := [(6, .int v), (5, .int k), (0, .ref bs), (1, .ref (G.2.2.2 + 0)), (2, .ref (G.2.2.2 + 258)), (3, .ref (G.2.2.2 + 311)), (4, .int i4)]) E.1 E.2.1 dL_law_1205 hl (by decide) rfl (fun ls hl => ?_)
  refine lv_aload_n E.1 E.2.1 dL_law_1207 rfl (lv_at hl 4 rfl) ?_
  refine l_R (As := []) (rest := []) E hW (m_X7_thrown (sz := H.size) hct) rfl kw_1000 (⟨kw_1001, kw_1002, kw_8, kw_1003⟩ : wV yX7_thrown cX7_thrown 1 (some .int)) (⟨⟨by decide +kernel, by decide +kernel⟩, by decide +kernel⟩ : yOK yX7_thrown 0) ⟨rfl, rfl⟩ ⟨(Nat.le_of_ble_eq_true rfl), (Nat.le_of_ble_eq_true rfl)⟩ (lv_size hl) (Nat.le_of_ble_eq_true rfl) ⟨show cells + 5 ≤ 601024 by omega, show slots + 30 ≤ 7293034 by omega⟩ rfl dL_law_1208 (fun H locs hW => ?_)
  refine W.eq (g2 := F0 m 1211 ls [.int k]) rfl ?_
  refine lv_iload E.1 E.2.1 dL_law_1211 (lv_at hl 1 rfl) ?_
  refine lv_icmp_eq (tgt := 1218) E.1 E.2.1 dL_law_1213 (by decide) (fun g => ?_) (fun g => absurd rfl g)
  refine lv_iload E.1 E.2.1 dL_law_1218 (lv_at hl 1 rfl) ?_
  refine lv_if_ne (tgt := 1235) E.1 E.2.1 dL_law_1220 (by decide) (fun g => ?_) (fun g => ?_)
  · skip
    refine lv_goto (tgt := 1704) E.1 E.2.1 dL_law_1235 (by decide) ?_
    exact kk (cells + 5) (slots + 30) _ _ _ (by omega) (by omega) hW (lv_sub hl [2, 3, 4, 5, 6] rfl)
  · have hk := hk g
    refine lv_aload_n E.1 E.2.1 dL_law_1223 rfl (lv_at hl 5 rfl) ?_
    refine lv_iconst (v := (0 : Int32)) E.1 E.2.1 dL_law_1224 (by decide) ?_
    refine r_lald E hW (q := 311) (n := 1) rfl vin01 dL_law_1225 ?_
    refine W.eq (g2 := F0 m 1226 ls [.long (ρ'.2 0 0)]) rfl ?_
    refine lv_iload E.1 E.2.1 dL_law_1226 (lv_at hl 0 rfl) ?_
    refine lv_i2l E.1 E.2.1 dL_law_1228 rfl ?_
    refine r_lc_eq E dL_law_1229 dL_law_1230 (tgt := 1235) (by decide) (fun g2 => ?_) (fun g2 => absurd hk g2)
    refine lv_goto (tgt := 1704) E.1 E.2.1 dL_law_1235 (by decide) ?_
    exact kk (cells + 5) (slots + 30) _ _ _ (by omega) (by omega) hW (lv_sub hl [2, 3, 4, 5, 6] rfl)
set_option maxHeartbeats 4000000 in
set_option maxRecDepth 100000 in
theorem L_step {p : Program} {l : Launch} {e : Env} {s : State} {m : MethodId} {args : Array Value} {below : List Frame} {meth : Method} {c : Code} {H : Heap} {locs : List Loc} {cells slots : Nat} {Q : State → Prop} {G : GP} {A0 : Nat → Prop} {σ τ ρ σ' τ' ρ' : St} {ls : Array Slot} {bs L : Nat} {xs : Nat → Int32} {i4 a1 a2 a3 a4 a5 : Int32} (E : En p m c s cL_law 7 RL G A0) (hN : Nc4 s) (hl9 : l.stackTraces = false) (hX : va_X bs L xs s s.heap) (hbl : bs < s.heap.size) (hbA : ¬ A0 bs) (hW : Wo G skA A0 s (jn σ τ ρ) H locs)
    (y1 : vp_in (i4 + 1) L ∧ xs (i4 + 1).toNatClampNeg = a1) (y2 : vp_in (i4 + 2) L ∧ xs (i4 + 2).toNatClampNeg = a2) (y3 : vp_in (i4 + 3) L ∧ xs (i4 + 3).toNatClampNeg = a3) (y4 : vp_in (i4 + 4) L ∧ xs (i4 + 4).toNatClampNeg = a4) (y5 : vp_in (i4 + 5) L ∧ xs (i4 + 5).toNatClampNeg = a5)
    (hl : lv_has ls 7 [(0, .ref bs), (1, .ref (G.2.2.2 + 0)), (2, .ref (G.2.2.2 + 258)), (3, .ref (G.2.2.2 + 311)), (4, .int i4)]) (hcs : cells + 8 ≤ 601024 ∧ slots + 48 ≤ 7293034) (h : wst (f_L_step a1 a2 σ ρ) (f_X7_step 0 a1 a2 τ) Int32.toInt64 = some (σ', τ', ρ'))
    (kk : ∀ (cells1 slots1 : Nat) (H1 : Heap) (locs1 : List Loc) (ls1 : Array Slot), cells1 ≤ cells + 8 → slots1 ≤ slots + 48 → Wo G skA A0 s (jn σ' τ' ρ') H1 locs1 → lv_has ls1 7 [(0, .ref bs), (1, .ref (G.2.2.2 + 0)), (2, .ref (G.2.2.2 + 258)), (3, .ref (G.2.2.2 + 311)), (4, .int i4)] → W p l e room_1 s m args below meth c H1 locs1 cells1 slots1 Q (F0 m 1704 ls1 [])) :
    W p l e room_1 s m args below meth c H locs cells slots Q (F0 m 1238 ls []) := by
  obtain ⟨k, v, τ1, hc6, hc7, hct, hk⟩ := wst_r h
  refine lv_aload_n E.1 E.2.1 dL_law_1238 rfl (lv_at hl 1 rfl) ?_
  refine lv_aload_n E.1 E.2.1 dL_law_1239 rfl (lv_at hl 0 rfl) ?_
  refine lv_iload E.1 E.2.1 dL_law_1240 (lv_at hl 4 rfl) ?_
  refine lv_iconst (v := (1 : Int32)) E.1 E.2.1 dL_law_1242 (by decide) ?_
  refine lv_iadd E.1 E.2.1 dL_law_1243 ?_
  refine va_sld E.1 E.2.1 hX hbl hbA hW.2.1 y1.1 dL_law_1244 ?_
  rw [y1.2]
  refine lv_aload_n E.1 E.2.1 dL_law_1245 rfl (lv_at hl 0 rfl) ?_
  refine lv_iload E.1 E.2.1 dL_law_1246 (lv_at hl 4 rfl) ?_
  refine lv_iconst (v := (2 : Int32)) E.1 E.2.1 dL_law_1248 (by decide) ?_
  refine lv_iadd E.1 E.2.1 dL_law_1249 ?_
  refine va_sld E.1 E.2.1 hX hbl hbA hW.2.1 y2.1 dL_law_1250 ?_
  rw [y2.2]
  refine lv_aload_n E.1 E.2.1 dL_law_1251 rfl (lv_at hl 3 rfl) ?_
  refine c_SW (As := [.ref (G.2.2.2 + 0), .int a1, .int a2, .ref (G.2.2.2 + 311)]) (rest := []) E hN hW (m_L_step (sz := H.size) (τ := τ) hl9 hc6) kw_835 ⟨kw_836, ini_L, kw_837⟩ (⟨⟨by decide +kernel, by decide +kernel⟩, by decide +kernel⟩ : yOK yL_step 4) ⟨rfl, rfl⟩ ⟨(Nat.le_of_ble_eq_true rfl), (Nat.le_of_ble_eq_true rfl)⟩ (lv_size hl) (Nat.le_of_ble_eq_true rfl) ⟨show cells + 6 ≤ 601024 by omega, show slots + 36 ≤ 7293034 by omega⟩ rfl dL_law_1252 (fun H locs hW => ?_)
  refine W.eq (g2 := F0 m 1255 ls [.int k]) rfl ?_
  refine lv_istore (lv' := [(5, .int k), (0, .ref bs), (1, .ref (G.2.2.2 + 0)), (2, .ref (G.2.2.2 + 258)), (3, .ref (G.2.2.2 + 311)), (4, .int i4)]) E.1 E.2.1 dL_law_1255 hl (by decide) rfl (fun ls hl => ?_)
  refine lv_aload_n E.1 E.2.1 dL_law_1257 rfl (lv_at hl 3 rfl) ?_
  refine lv_aload_n E.1 E.2.1 dL_law_1258 rfl (lv_at hl 1 rfl) ?_
  refine lv_iload E.1 E.2.1 dL_law_1259 (lv_at hl 5 rfl) ?_
  refine lv_iconst (v := (1 : Int32)) E.1 E.2.1 dL_law_1261 (by decide) ?_
  refine lv_iadd E.1 E.2.1 dL_law_1262 ?_
  refine va_sld E.1 E.2.1 hX hbl hbA hW.2.1 y1.1 dL_law_1263 ?_
  rw [y1.2]
  refine lv_aload_n E.1 E.2.1 dL_law_1264 rfl (lv_at hl 1 rfl) ?_
  refine lv_iload E.1 E.2.1 dL_law_1265 (lv_at hl 5 rfl) ?_
  refine lv_iconst (v := (2 : Int32)) E.1 E.2.1 dL_law_1267 (by decide) ?_
  refine lv_iadd E.1 E.2.1 dL_law_1268 ?_
  refine va_sld E.1 E.2.1 hX hbl hbA hW.2.1 y2.1 dL_law_1269 ?_
  rw [y2.2]
  refine l_R (As := [.int a1, .int a2]) (rest := []) E hW (m_X7_step (sz := H.size) hc7) rfl kw_1274 (⟨kw_1275, kw_1276, kw_8, kw_1277⟩ : wV yX7_step cX7_step 4 (some .int)) (⟨⟨by decide +kernel, by decide +kernel⟩, by decide +kernel⟩ : yOK yX7_step 2) ⟨rfl, rfl⟩ ⟨(Nat.le_of_ble_eq_true rfl), (Nat.le_of_ble_eq_true rfl)⟩ (lv_size hl) (Nat.le_of_ble_eq_true rfl) ⟨show cells + 6 ≤ 601024 by omega, show slots + 36 ≤ 7293034 by omega⟩ rfl dL_law_1270 (fun H locs hW => ?_)
  refine W.eq (g2 := F0 m 1273 ls [.int v]) rfl ?_
  refine lv_istore (lv' := [(6, .int v), (5, .int k), (0, .ref bs), (1, .ref (G.2.2.2 + 0)), (2, .ref (G.2.2.2 + 258)), (3, .ref (G.2.2.2 + 311)), (4, .int i4)]) E.1 E.2.1 dL_law_1273 hl (by decide) rfl (fun ls hl => ?_)
  refine lv_aload_n E.1 E.2.1 dL_law_1275 rfl (lv_at hl 4 rfl) ?_
  refine l_R (As := []) (rest := []) E hW (m_X7_thrown (sz := H.size) hct) rfl kw_1000 (⟨kw_1001, kw_1002, kw_8, kw_1003⟩ : wV yX7_thrown cX7_thrown 1 (some .int)) (⟨⟨by decide +kernel, by decide +kernel⟩, by decide +kernel⟩ : yOK yX7_thrown 0) ⟨rfl, rfl⟩ ⟨(Nat.le_of_ble_eq_true rfl), (Nat.le_of_ble_eq_true rfl)⟩ (lv_size hl) (Nat.le_of_ble_eq_true rfl) ⟨show cells + 6 ≤ 601024 by omega, show slots + 36 ≤ 7293034 by omega⟩ rfl dL_law_1276 (fun H locs hW => ?_)
  refine W.eq (g2 := F0 m 1279 ls [.int k]) rfl ?_
  refine lv_iload E.1 E.2.1 dL_law_1279 (lv_at hl 1 rfl) ?_
  refine lv_icmp_eq (tgt := 1286) E.1 E.2.1 dL_law_1281 (by decide) (fun g => ?_) (fun g => absurd rfl g)
  refine lv_iload E.1 E.2.1 dL_law_1286 (lv_at hl 1 rfl) ?_
  refine lv_if_ne (tgt := 1303) E.1 E.2.1 dL_law_1288 (by decide) (fun g => ?_) (fun g => ?_)
  · skip
    refine lv_goto (tgt := 1704) E.1 E.2.1 dL_law_1303 (by decide) ?_
    exact kk (cells + 6) (slots + 36) _ _ _ (by omega) (by omega) hW (lv_sub hl [2, 3, 4, 5, 6] rfl)
  · have hk := hk g
    refine lv_aload_n E.1 E.2.1 dL_law_1291 rfl (lv_at hl 5 rfl) ?_
    refine lv_iconst (v := (0 : Int32)) E.1 E.2.1 dL_law_1292 (by decide) ?_
    refine r_lald E hW (q := 311) (n := 1) rfl vin01 dL_law_1293 ?_
    refine W.eq (g2 := F0 m 1294 ls [.long (ρ'.2 0 0)]) rfl ?_
    refine lv_iload E.1 E.2.1 dL_law_1294 (lv_at hl 0 rfl) ?_
    refine lv_i2l E.1 E.2.1 dL_law_1296 rfl ?_
    refine r_lc_eq E dL_law_1297 dL_law_1298 (tgt := 1303) (by decide) (fun g2 => ?_) (fun g2 => absurd hk g2)
    refine lv_goto (tgt := 1704) E.1 E.2.1 dL_law_1303 (by decide) ?_
    exact kk (cells + 6) (slots + 36) _ _ _ (by omega) (by omega) hW (lv_sub hl [2, 3, 4, 5, 6] rfl)
set_option maxHeartbeats 4000000 in
set_option maxRecDepth 100000 in
theorem L_sweep {p : Program} {l : Launch} {e : Env} {s : State} {m : MethodId} {args : Array Value} {below : List Frame} {meth : Method} {c : Code} {H : Heap} {locs : List Loc} {cells slots : Nat} {Q : State → Prop} {G : GP} {A0 : Nat → Prop} {σ τ ρ σ' τ' ρ' : St} {ls : Array Slot} {bs L : Nat} {xs : Nat → Int32} {i4 a1 a2 a3 a4 a5 : Int32} (E : En p m c s cL_law 7 RL G A0) (hN : Nc4 s) (hl9 : l.stackTraces = false) (hX : va_X bs L xs s s.heap) (hbl : bs < s.heap.size) (hbA : ¬ A0 bs) (hW : Wo G skA A0 s (jn σ τ ρ) H locs)
    (y1 : vp_in (i4 + 1) L ∧ xs (i4 + 1).toNatClampNeg = a1) (y2 : vp_in (i4 + 2) L ∧ xs (i4 + 2).toNatClampNeg = a2) (y3 : vp_in (i4 + 3) L ∧ xs (i4 + 3).toNatClampNeg = a3) (y4 : vp_in (i4 + 4) L ∧ xs (i4 + 4).toNatClampNeg = a4) (y5 : vp_in (i4 + 5) L ∧ xs (i4 + 5).toNatClampNeg = a5)
    (hl : lv_has ls 7 [(0, .ref bs), (1, .ref (G.2.2.2 + 0)), (2, .ref (G.2.2.2 + 258)), (3, .ref (G.2.2.2 + 311)), (4, .int i4)]) (hcs : cells + 8 ≤ 601024 ∧ slots + 48 ≤ 7293034) (h : wst (f_L_sweep a1 a2 σ ρ) (f_X7_sweep 0 a1 a2 τ) Int32.toInt64 = some (σ', τ', ρ'))
    (kk : ∀ (cells1 slots1 : Nat) (H1 : Heap) (locs1 : List Loc) (ls1 : Array Slot), cells1 ≤ cells + 8 → slots1 ≤ slots + 48 → Wo G skA A0 s (jn σ' τ' ρ') H1 locs1 → lv_has ls1 7 [(0, .ref bs), (1, .ref (G.2.2.2 + 0)), (2, .ref (G.2.2.2 + 258)), (3, .ref (G.2.2.2 + 311)), (4, .int i4)] → W p l e room_1 s m args below meth c H1 locs1 cells1 slots1 Q (F0 m 1704 ls1 [])) :
    W p l e room_1 s m args below meth c H locs cells slots Q (F0 m 1306 ls []) := by
  obtain ⟨k, v, τ1, hc6, hc7, hct, hk⟩ := wst_r h
  refine lv_aload_n E.1 E.2.1 dL_law_1306 rfl (lv_at hl 1 rfl) ?_
  refine lv_aload_n E.1 E.2.1 dL_law_1307 rfl (lv_at hl 0 rfl) ?_
  refine lv_iload E.1 E.2.1 dL_law_1308 (lv_at hl 4 rfl) ?_
  refine lv_iconst (v := (1 : Int32)) E.1 E.2.1 dL_law_1310 (by decide) ?_
  refine lv_iadd E.1 E.2.1 dL_law_1311 ?_
  refine va_sld E.1 E.2.1 hX hbl hbA hW.2.1 y1.1 dL_law_1312 ?_
  rw [y1.2]
  refine lv_aload_n E.1 E.2.1 dL_law_1313 rfl (lv_at hl 0 rfl) ?_
  refine lv_iload E.1 E.2.1 dL_law_1314 (lv_at hl 4 rfl) ?_
  refine lv_iconst (v := (2 : Int32)) E.1 E.2.1 dL_law_1316 (by decide) ?_
  refine lv_iadd E.1 E.2.1 dL_law_1317 ?_
  refine va_sld E.1 E.2.1 hX hbl hbA hW.2.1 y2.1 dL_law_1318 ?_
  rw [y2.2]
  refine lv_aload_n E.1 E.2.1 dL_law_1319 rfl (lv_at hl 3 rfl) ?_
  refine c_SW (As := [.ref (G.2.2.2 + 0), .int a1, .int a2, .ref (G.2.2.2 + 311)]) (rest := []) E hN hW (m_L_sweep (sz := H.size) (τ := τ) hl9 hc6) kw_848 ⟨kw_849, ini_L, kw_850⟩ (⟨⟨by decide +kernel, by decide +kernel⟩, by decide +kernel⟩ : yOK yL_sweep 4) ⟨rfl, rfl⟩ ⟨(Nat.le_of_ble_eq_true rfl), (Nat.le_of_ble_eq_true rfl)⟩ (lv_size hl) (Nat.le_of_ble_eq_true rfl) ⟨show cells + 4 ≤ 601024 by omega, show slots + 24 ≤ 7293034 by omega⟩ rfl dL_law_1320 (fun H locs hW => ?_)
  refine W.eq (g2 := F0 m 1323 ls [.int k]) rfl ?_
  refine lv_istore (lv' := [(5, .int k), (0, .ref bs), (1, .ref (G.2.2.2 + 0)), (2, .ref (G.2.2.2 + 258)), (3, .ref (G.2.2.2 + 311)), (4, .int i4)]) E.1 E.2.1 dL_law_1323 hl (by decide) rfl (fun ls hl => ?_)
  refine lv_aload_n E.1 E.2.1 dL_law_1325 rfl (lv_at hl 3 rfl) ?_
  refine lv_aload_n E.1 E.2.1 dL_law_1326 rfl (lv_at hl 1 rfl) ?_
  refine lv_iload E.1 E.2.1 dL_law_1327 (lv_at hl 5 rfl) ?_
  refine lv_iconst (v := (1 : Int32)) E.1 E.2.1 dL_law_1329 (by decide) ?_
  refine lv_iadd E.1 E.2.1 dL_law_1330 ?_
  refine va_sld E.1 E.2.1 hX hbl hbA hW.2.1 y1.1 dL_law_1331 ?_
  rw [y1.2]
  refine lv_aload_n E.1 E.2.1 dL_law_1332 rfl (lv_at hl 1 rfl) ?_
  refine lv_iload E.1 E.2.1 dL_law_1333 (lv_at hl 5 rfl) ?_
  refine lv_iconst (v := (2 : Int32)) E.1 E.2.1 dL_law_1335 (by decide) ?_
  refine lv_iadd E.1 E.2.1 dL_law_1336 ?_
  refine va_sld E.1 E.2.1 hX hbl hbA hW.2.1 y2.1 dL_law_1337 ?_
  rw [y2.2]
  refine l_R (As := [.int a1, .int a2]) (rest := []) E hW (m_X7_sweep (sz := H.size) hc7) rfl kw_1282 (⟨kw_1283, kw_1284, kw_8, kw_1285⟩ : wV yX7_sweep cX7_sweep 5 (some .int)) (⟨⟨by decide +kernel, by decide +kernel⟩, by decide +kernel⟩ : yOK yX7_sweep 2) ⟨rfl, rfl⟩ ⟨(Nat.le_of_ble_eq_true rfl), (Nat.le_of_ble_eq_true rfl)⟩ (lv_size hl) (Nat.le_of_ble_eq_true rfl) ⟨show cells + 4 ≤ 601024 by omega, show slots + 24 ≤ 7293034 by omega⟩ rfl dL_law_1338 (fun H locs hW => ?_)
  refine W.eq (g2 := F0 m 1341 ls [.int v]) rfl ?_
  refine lv_istore (lv' := [(6, .int v), (5, .int k), (0, .ref bs), (1, .ref (G.2.2.2 + 0)), (2, .ref (G.2.2.2 + 258)), (3, .ref (G.2.2.2 + 311)), (4, .int i4)]) E.1 E.2.1 dL_law_1341 hl (by decide) rfl (fun ls hl => ?_)
  refine lv_aload_n E.1 E.2.1 dL_law_1343 rfl (lv_at hl 4 rfl) ?_
  refine l_R (As := []) (rest := []) E hW (m_X7_thrown (sz := H.size) hct) rfl kw_1000 (⟨kw_1001, kw_1002, kw_8, kw_1003⟩ : wV yX7_thrown cX7_thrown 1 (some .int)) (⟨⟨by decide +kernel, by decide +kernel⟩, by decide +kernel⟩ : yOK yX7_thrown 0) ⟨rfl, rfl⟩ ⟨(Nat.le_of_ble_eq_true rfl), (Nat.le_of_ble_eq_true rfl)⟩ (lv_size hl) (Nat.le_of_ble_eq_true rfl) ⟨show cells + 4 ≤ 601024 by omega, show slots + 24 ≤ 7293034 by omega⟩ rfl dL_law_1344 (fun H locs hW => ?_)
  refine W.eq (g2 := F0 m 1347 ls [.int k]) rfl ?_
  refine lv_iload E.1 E.2.1 dL_law_1347 (lv_at hl 1 rfl) ?_
  refine lv_icmp_eq (tgt := 1354) E.1 E.2.1 dL_law_1349 (by decide) (fun g => ?_) (fun g => absurd rfl g)
  refine lv_iload E.1 E.2.1 dL_law_1354 (lv_at hl 1 rfl) ?_
  refine lv_if_ne (tgt := 1371) E.1 E.2.1 dL_law_1356 (by decide) (fun g => ?_) (fun g => ?_)
  · skip
    refine lv_goto (tgt := 1704) E.1 E.2.1 dL_law_1371 (by decide) ?_
    exact kk (cells + 4) (slots + 24) _ _ _ (by omega) (by omega) hW (lv_sub hl [2, 3, 4, 5, 6] rfl)
  · have hk := hk g
    refine lv_aload_n E.1 E.2.1 dL_law_1359 rfl (lv_at hl 5 rfl) ?_
    refine lv_iconst (v := (0 : Int32)) E.1 E.2.1 dL_law_1360 (by decide) ?_
    refine r_lald E hW (q := 311) (n := 1) rfl vin01 dL_law_1361 ?_
    refine W.eq (g2 := F0 m 1362 ls [.long (ρ'.2 0 0)]) rfl ?_
    refine lv_iload E.1 E.2.1 dL_law_1362 (lv_at hl 0 rfl) ?_
    refine lv_i2l E.1 E.2.1 dL_law_1364 rfl ?_
    refine r_lc_eq E dL_law_1365 dL_law_1366 (tgt := 1371) (by decide) (fun g2 => ?_) (fun g2 => absurd hk g2)
    refine lv_goto (tgt := 1704) E.1 E.2.1 dL_law_1371 (by decide) ?_
    exact kk (cells + 4) (slots + 24) _ _ _ (by omega) (by omega) hW (lv_sub hl [2, 3, 4, 5, 6] rfl)
set_option maxHeartbeats 4000000 in
set_option maxRecDepth 100000 in
theorem L_wrap {p : Program} {l : Launch} {e : Env} {s : State} {m : MethodId} {args : Array Value} {below : List Frame} {meth : Method} {c : Code} {H : Heap} {locs : List Loc} {cells slots : Nat} {Q : State → Prop} {G : GP} {A0 : Nat → Prop} {σ τ ρ σ' τ' ρ' : St} {ls : Array Slot} {bs L : Nat} {xs : Nat → Int32} {i4 a1 a2 a3 a4 a5 : Int32} (E : En p m c s cL_law 7 RL G A0) (hN : Nc4 s) (hl9 : l.stackTraces = false) (hX : va_X bs L xs s s.heap) (hbl : bs < s.heap.size) (hbA : ¬ A0 bs) (hW : Wo G skA A0 s (jn σ τ ρ) H locs)
    (y1 : vp_in (i4 + 1) L ∧ xs (i4 + 1).toNatClampNeg = a1) (y2 : vp_in (i4 + 2) L ∧ xs (i4 + 2).toNatClampNeg = a2) (y3 : vp_in (i4 + 3) L ∧ xs (i4 + 3).toNatClampNeg = a3) (y4 : vp_in (i4 + 4) L ∧ xs (i4 + 4).toNatClampNeg = a4) (y5 : vp_in (i4 + 5) L ∧ xs (i4 + 5).toNatClampNeg = a5)
    (hl : lv_has ls 7 [(0, .ref bs), (1, .ref (G.2.2.2 + 0)), (2, .ref (G.2.2.2 + 258)), (3, .ref (G.2.2.2 + 311)), (4, .int i4)]) (hcs : cells + 8 ≤ 601024 ∧ slots + 48 ≤ 7293034) (h : wst (f_L_wrap a1 a2 σ ρ) (f_X7_wrap 0 a1 a2 τ) Int32.toInt64 = some (σ', τ', ρ'))
    (kk : ∀ (cells1 slots1 : Nat) (H1 : Heap) (locs1 : List Loc) (ls1 : Array Slot), cells1 ≤ cells + 8 → slots1 ≤ slots + 48 → Wo G skA A0 s (jn σ' τ' ρ') H1 locs1 → lv_has ls1 7 [(0, .ref bs), (1, .ref (G.2.2.2 + 0)), (2, .ref (G.2.2.2 + 258)), (3, .ref (G.2.2.2 + 311)), (4, .int i4)] → W p l e room_1 s m args below meth c H1 locs1 cells1 slots1 Q (F0 m 1704 ls1 [])) :
    W p l e room_1 s m args below meth c H locs cells slots Q (F0 m 1374 ls []) := by
  obtain ⟨k, v, τ1, hc6, hc7, hct, hk⟩ := wst_r h
  refine lv_aload_n E.1 E.2.1 dL_law_1374 rfl (lv_at hl 1 rfl) ?_
  refine lv_aload_n E.1 E.2.1 dL_law_1375 rfl (lv_at hl 0 rfl) ?_
  refine lv_iload E.1 E.2.1 dL_law_1376 (lv_at hl 4 rfl) ?_
  refine lv_iconst (v := (1 : Int32)) E.1 E.2.1 dL_law_1378 (by decide) ?_
  refine lv_iadd E.1 E.2.1 dL_law_1379 ?_
  refine va_sld E.1 E.2.1 hX hbl hbA hW.2.1 y1.1 dL_law_1380 ?_
  rw [y1.2]
  refine lv_aload_n E.1 E.2.1 dL_law_1381 rfl (lv_at hl 0 rfl) ?_
  refine lv_iload E.1 E.2.1 dL_law_1382 (lv_at hl 4 rfl) ?_
  refine lv_iconst (v := (2 : Int32)) E.1 E.2.1 dL_law_1384 (by decide) ?_
  refine lv_iadd E.1 E.2.1 dL_law_1385 ?_
  refine va_sld E.1 E.2.1 hX hbl hbA hW.2.1 y2.1 dL_law_1386 ?_
  rw [y2.2]
  refine lv_aload_n E.1 E.2.1 dL_law_1387 rfl (lv_at hl 3 rfl) ?_
  refine c_SW (As := [.ref (G.2.2.2 + 0), .int a1, .int a2, .ref (G.2.2.2 + 311)]) (rest := []) E hN hW (m_L_wrap (sz := H.size) (τ := τ) hl9 hc6) kw_863 ⟨kw_864, ini_L, kw_865⟩ (⟨⟨by decide +kernel, by decide +kernel⟩, by decide +kernel⟩ : yOK yL_wrap 4) ⟨rfl, rfl⟩ ⟨(Nat.le_of_ble_eq_true rfl), (Nat.le_of_ble_eq_true rfl)⟩ (lv_size hl) (Nat.le_of_ble_eq_true rfl) ⟨show cells + 4 ≤ 601024 by omega, show slots + 24 ≤ 7293034 by omega⟩ rfl dL_law_1388 (fun H locs hW => ?_)
  refine W.eq (g2 := F0 m 1391 ls [.int k]) rfl ?_
  refine lv_istore (lv' := [(5, .int k), (0, .ref bs), (1, .ref (G.2.2.2 + 0)), (2, .ref (G.2.2.2 + 258)), (3, .ref (G.2.2.2 + 311)), (4, .int i4)]) E.1 E.2.1 dL_law_1391 hl (by decide) rfl (fun ls hl => ?_)
  refine lv_aload_n E.1 E.2.1 dL_law_1393 rfl (lv_at hl 3 rfl) ?_
  refine lv_aload_n E.1 E.2.1 dL_law_1394 rfl (lv_at hl 1 rfl) ?_
  refine lv_iload E.1 E.2.1 dL_law_1395 (lv_at hl 5 rfl) ?_
  refine lv_iconst (v := (1 : Int32)) E.1 E.2.1 dL_law_1397 (by decide) ?_
  refine lv_iadd E.1 E.2.1 dL_law_1398 ?_
  refine va_sld E.1 E.2.1 hX hbl hbA hW.2.1 y1.1 dL_law_1399 ?_
  rw [y1.2]
  refine lv_aload_n E.1 E.2.1 dL_law_1400 rfl (lv_at hl 1 rfl) ?_
  refine lv_iload E.1 E.2.1 dL_law_1401 (lv_at hl 5 rfl) ?_
  refine lv_iconst (v := (2 : Int32)) E.1 E.2.1 dL_law_1403 (by decide) ?_
  refine lv_iadd E.1 E.2.1 dL_law_1404 ?_
  refine va_sld E.1 E.2.1 hX hbl hbA hW.2.1 y2.1 dL_law_1405 ?_
  rw [y2.2]
  refine l_R (As := [.int a1, .int a2]) (rest := []) E hW (m_X7_wrap (sz := H.size) hc7) rfl kw_1287 (⟨kw_1288, kw_1289, kw_8, kw_1290⟩ : wV yX7_wrap cX7_wrap 10 (some .int)) (⟨⟨by decide +kernel, by decide +kernel⟩, by decide +kernel⟩ : yOK yX7_wrap 2) ⟨rfl, rfl⟩ ⟨(Nat.le_of_ble_eq_true rfl), (Nat.le_of_ble_eq_true rfl)⟩ (lv_size hl) (Nat.le_of_ble_eq_true rfl) ⟨show cells + 4 ≤ 601024 by omega, show slots + 24 ≤ 7293034 by omega⟩ rfl dL_law_1406 (fun H locs hW => ?_)
  refine W.eq (g2 := F0 m 1409 ls [.int v]) rfl ?_
  refine lv_istore (lv' := [(6, .int v), (5, .int k), (0, .ref bs), (1, .ref (G.2.2.2 + 0)), (2, .ref (G.2.2.2 + 258)), (3, .ref (G.2.2.2 + 311)), (4, .int i4)]) E.1 E.2.1 dL_law_1409 hl (by decide) rfl (fun ls hl => ?_)
  refine lv_aload_n E.1 E.2.1 dL_law_1411 rfl (lv_at hl 4 rfl) ?_
  refine l_R (As := []) (rest := []) E hW (m_X7_thrown (sz := H.size) hct) rfl kw_1000 (⟨kw_1001, kw_1002, kw_8, kw_1003⟩ : wV yX7_thrown cX7_thrown 1 (some .int)) (⟨⟨by decide +kernel, by decide +kernel⟩, by decide +kernel⟩ : yOK yX7_thrown 0) ⟨rfl, rfl⟩ ⟨(Nat.le_of_ble_eq_true rfl), (Nat.le_of_ble_eq_true rfl)⟩ (lv_size hl) (Nat.le_of_ble_eq_true rfl) ⟨show cells + 4 ≤ 601024 by omega, show slots + 24 ≤ 7293034 by omega⟩ rfl dL_law_1412 (fun H locs hW => ?_)
  refine W.eq (g2 := F0 m 1415 ls [.int k]) rfl ?_
  refine lv_iload E.1 E.2.1 dL_law_1415 (lv_at hl 1 rfl) ?_
  refine lv_icmp_eq (tgt := 1422) E.1 E.2.1 dL_law_1417 (by decide) (fun g => ?_) (fun g => absurd rfl g)
  refine lv_iload E.1 E.2.1 dL_law_1422 (lv_at hl 1 rfl) ?_
  refine lv_if_ne (tgt := 1439) E.1 E.2.1 dL_law_1424 (by decide) (fun g => ?_) (fun g => ?_)
  · skip
    refine lv_goto (tgt := 1704) E.1 E.2.1 dL_law_1439 (by decide) ?_
    exact kk (cells + 4) (slots + 24) _ _ _ (by omega) (by omega) hW (lv_sub hl [2, 3, 4, 5, 6] rfl)
  · have hk := hk g
    refine lv_aload_n E.1 E.2.1 dL_law_1427 rfl (lv_at hl 5 rfl) ?_
    refine lv_iconst (v := (0 : Int32)) E.1 E.2.1 dL_law_1428 (by decide) ?_
    refine r_lald E hW (q := 311) (n := 1) rfl vin01 dL_law_1429 ?_
    refine W.eq (g2 := F0 m 1430 ls [.long (ρ'.2 0 0)]) rfl ?_
    refine lv_iload E.1 E.2.1 dL_law_1430 (lv_at hl 0 rfl) ?_
    refine lv_i2l E.1 E.2.1 dL_law_1432 rfl ?_
    refine r_lc_eq E dL_law_1433 dL_law_1434 (tgt := 1439) (by decide) (fun g2 => ?_) (fun g2 => absurd hk g2)
    refine lv_goto (tgt := 1704) E.1 E.2.1 dL_law_1439 (by decide) ?_
    exact kk (cells + 4) (slots + 24) _ _ _ (by omega) (by omega) hW (lv_sub hl [2, 3, 4, 5, 6] rfl)
set_option maxHeartbeats 4000000 in
set_option maxRecDepth 100000 in
theorem L_setCoefficient {p : Program} {l : Launch} {e : Env} {s : State} {m : MethodId} {args : Array Value} {below : List Frame} {meth : Method} {c : Code} {H : Heap} {locs : List Loc} {cells slots : Nat} {Q : State → Prop} {G : GP} {A0 : Nat → Prop} {σ τ ρ σ' τ' ρ' : St} {ls : Array Slot} {bs L : Nat} {xs : Nat → Int32} {i4 a1 a2 a3 a4 a5 : Int32} (E : En p m c s cL_law 7 RL G A0) (hN : Nc4 s) (hl9 : l.stackTraces = false) (hX : va_X bs L xs s s.heap) (hbl : bs < s.heap.size) (hbA : ¬ A0 bs) (hW : Wo G skA A0 s (jn σ τ ρ) H locs)
    (y1 : vp_in (i4 + 1) L ∧ xs (i4 + 1).toNatClampNeg = a1) (y2 : vp_in (i4 + 2) L ∧ xs (i4 + 2).toNatClampNeg = a2) (y3 : vp_in (i4 + 3) L ∧ xs (i4 + 3).toNatClampNeg = a3) (y4 : vp_in (i4 + 4) L ∧ xs (i4 + 4).toNatClampNeg = a4) (y5 : vp_in (i4 + 5) L ∧ xs (i4 + 5).toNatClampNeg = a5)
    (hl : lv_has ls 7 [(0, .ref bs), (1, .ref (G.2.2.2 + 0)), (2, .ref (G.2.2.2 + 258)), (3, .ref (G.2.2.2 + 311)), (4, .int i4)]) (hcs : cells + 8 ≤ 601024 ∧ slots + 48 ≤ 7293034) (h : wst (f_L_setCoefficient a1 a2 a3 a4 σ ρ) (f_X7_setCoefficient 0 a1 a2 a3 a4 τ) Int32.toInt64 = some (σ', τ', ρ'))
    (kk : ∀ (cells1 slots1 : Nat) (H1 : Heap) (locs1 : List Loc) (ls1 : Array Slot), cells1 ≤ cells + 8 → slots1 ≤ slots + 48 → Wo G skA A0 s (jn σ' τ' ρ') H1 locs1 → lv_has ls1 7 [(0, .ref bs), (1, .ref (G.2.2.2 + 0)), (2, .ref (G.2.2.2 + 258)), (3, .ref (G.2.2.2 + 311)), (4, .int i4)] → W p l e room_1 s m args below meth c H1 locs1 cells1 slots1 Q (F0 m 1704 ls1 [])) :
    W p l e room_1 s m args below meth c H locs cells slots Q (F0 m 1442 ls []) := by
  obtain ⟨k, v, τ1, hc6, hc7, hct, hk⟩ := wst_r h
  refine lv_aload_n E.1 E.2.1 dL_law_1442 rfl (lv_at hl 1 rfl) ?_
  refine lv_aload_n E.1 E.2.1 dL_law_1443 rfl (lv_at hl 0 rfl) ?_
  refine lv_iload E.1 E.2.1 dL_law_1444 (lv_at hl 4 rfl) ?_
  refine lv_iconst (v := (1 : Int32)) E.1 E.2.1 dL_law_1446 (by decide) ?_
  refine lv_iadd E.1 E.2.1 dL_law_1447 ?_
  refine va_sld E.1 E.2.1 hX hbl hbA hW.2.1 y1.1 dL_law_1448 ?_
  rw [y1.2]
  refine lv_aload_n E.1 E.2.1 dL_law_1449 rfl (lv_at hl 0 rfl) ?_
  refine lv_iload E.1 E.2.1 dL_law_1450 (lv_at hl 4 rfl) ?_
  refine lv_iconst (v := (2 : Int32)) E.1 E.2.1 dL_law_1452 (by decide) ?_
  refine lv_iadd E.1 E.2.1 dL_law_1453 ?_
  refine va_sld E.1 E.2.1 hX hbl hbA hW.2.1 y2.1 dL_law_1454 ?_
  rw [y2.2]
  refine lv_aload_n E.1 E.2.1 dL_law_1455 rfl (lv_at hl 0 rfl) ?_
  refine lv_iload E.1 E.2.1 dL_law_1456 (lv_at hl 4 rfl) ?_
  refine lv_iconst (v := (3 : Int32)) E.1 E.2.1 dL_law_1458 (by decide) ?_
  refine lv_iadd E.1 E.2.1 dL_law_1459 ?_
  refine va_sld E.1 E.2.1 hX hbl hbA hW.2.1 y3.1 dL_law_1460 ?_
  rw [y3.2]
  refine lv_aload_n E.1 E.2.1 dL_law_1461 rfl (lv_at hl 0 rfl) ?_
  refine lv_iload E.1 E.2.1 dL_law_1462 (lv_at hl 4 rfl) ?_
  refine lv_iconst (v := (4 : Int32)) E.1 E.2.1 dL_law_1464 (by decide) ?_
  refine lv_iadd E.1 E.2.1 dL_law_1465 ?_
  refine va_sld E.1 E.2.1 hX hbl hbA hW.2.1 y4.1 dL_law_1466 ?_
  rw [y4.2]
  refine lv_aload_n E.1 E.2.1 dL_law_1467 rfl (lv_at hl 3 rfl) ?_
  refine c_SW (As := [.ref (G.2.2.2 + 0), .int a1, .int a2, .int a3, .int a4, .ref (G.2.2.2 + 311)]) (rest := []) E hN hW (m_L_setCoefficient (sz := H.size) (τ := τ) hl9 hc6) kw_873 ⟨kw_874, ini_L, kw_875⟩ (⟨⟨by decide +kernel, by decide +kernel⟩, by decide +kernel⟩ : yOK yL_setCoefficient 6) ⟨rfl, rfl⟩ ⟨(Nat.le_of_ble_eq_true rfl), (Nat.le_of_ble_eq_true rfl)⟩ (lv_size hl) (Nat.le_of_ble_eq_true rfl) ⟨show cells + 4 ≤ 601024 by omega, show slots + 24 ≤ 7293034 by omega⟩ rfl dL_law_1468 (fun H locs hW => ?_)
  refine W.eq (g2 := F0 m 1471 ls [.int k]) rfl ?_
  refine lv_istore (lv' := [(5, .int k), (0, .ref bs), (1, .ref (G.2.2.2 + 0)), (2, .ref (G.2.2.2 + 258)), (3, .ref (G.2.2.2 + 311)), (4, .int i4)]) E.1 E.2.1 dL_law_1471 hl (by decide) rfl (fun ls hl => ?_)
  refine lv_aload_n E.1 E.2.1 dL_law_1473 rfl (lv_at hl 3 rfl) ?_
  refine lv_aload_n E.1 E.2.1 dL_law_1474 rfl (lv_at hl 1 rfl) ?_
  refine lv_iload E.1 E.2.1 dL_law_1475 (lv_at hl 5 rfl) ?_
  refine lv_iconst (v := (1 : Int32)) E.1 E.2.1 dL_law_1477 (by decide) ?_
  refine lv_iadd E.1 E.2.1 dL_law_1478 ?_
  refine va_sld E.1 E.2.1 hX hbl hbA hW.2.1 y1.1 dL_law_1479 ?_
  rw [y1.2]
  refine lv_aload_n E.1 E.2.1 dL_law_1480 rfl (lv_at hl 1 rfl) ?_
  refine lv_iload E.1 E.2.1 dL_law_1481 (lv_at hl 5 rfl) ?_
  refine lv_iconst (v := (2 : Int32)) E.1 E.2.1 dL_law_1483 (by decide) ?_
  refine lv_iadd E.1 E.2.1 dL_law_1484 ?_
  refine va_sld E.1 E.2.1 hX hbl hbA hW.2.1 y2.1 dL_law_1485 ?_
  rw [y2.2]
  refine lv_aload_n E.1 E.2.1 dL_law_1486 rfl (lv_at hl 1 rfl) ?_
  refine lv_iload E.1 E.2.1 dL_law_1487 (lv_at hl 5 rfl) ?_
  refine lv_iconst (v := (3 : Int32)) E.1 E.2.1 dL_law_1489 (by decide) ?_
  refine lv_iadd E.1 E.2.1 dL_law_1490 ?_
  refine va_sld E.1 E.2.1 hX hbl hbA hW.2.1 y3.1 dL_law_1491 ?_
  rw [y3.2]
  refine lv_aload_n E.1 E.2.1 dL_law_1492 rfl (lv_at hl 1 rfl) ?_
  refine lv_iload E.1 E.2.1 dL_law_1493 (lv_at hl 5 rfl) ?_
  refine lv_iconst (v := (4 : Int32)) E.1 E.2.1 dL_law_1495 (by decide) ?_
  refine lv_iadd E.1 E.2.1 dL_law_1496 ?_
  refine va_sld E.1 E.2.1 hX hbl hbA hW.2.1 y4.1 dL_law_1497 ?_
  rw [y4.2]
  refine l_R (As := [.int a1, .int a2, .int a3, .int a4]) (rest := []) E hW (m_X7_setCoefficient (sz := H.size) hc7) rfl kw_1292 (⟨kw_1293, kw_1294, kw_8, kw_1295⟩ : wV yX7_setCoefficient cX7_setCoefficient 7 (some .int)) (⟨⟨by decide +kernel, by decide +kernel⟩, by decide +kernel⟩ : yOK yX7_setCoefficient 4) ⟨rfl, rfl⟩ ⟨(Nat.le_of_ble_eq_true rfl), (Nat.le_of_ble_eq_true rfl)⟩ (lv_size hl) (Nat.le_of_ble_eq_true rfl) ⟨show cells + 4 ≤ 601024 by omega, show slots + 24 ≤ 7293034 by omega⟩ rfl dL_law_1498 (fun H locs hW => ?_)
  refine W.eq (g2 := F0 m 1501 ls [.int v]) rfl ?_
  refine lv_istore (lv' := [(6, .int v), (5, .int k), (0, .ref bs), (1, .ref (G.2.2.2 + 0)), (2, .ref (G.2.2.2 + 258)), (3, .ref (G.2.2.2 + 311)), (4, .int i4)]) E.1 E.2.1 dL_law_1501 hl (by decide) rfl (fun ls hl => ?_)
  refine lv_aload_n E.1 E.2.1 dL_law_1503 rfl (lv_at hl 4 rfl) ?_
  refine l_R (As := []) (rest := []) E hW (m_X7_thrown (sz := H.size) hct) rfl kw_1000 (⟨kw_1001, kw_1002, kw_8, kw_1003⟩ : wV yX7_thrown cX7_thrown 1 (some .int)) (⟨⟨by decide +kernel, by decide +kernel⟩, by decide +kernel⟩ : yOK yX7_thrown 0) ⟨rfl, rfl⟩ ⟨(Nat.le_of_ble_eq_true rfl), (Nat.le_of_ble_eq_true rfl)⟩ (lv_size hl) (Nat.le_of_ble_eq_true rfl) ⟨show cells + 4 ≤ 601024 by omega, show slots + 24 ≤ 7293034 by omega⟩ rfl dL_law_1504 (fun H locs hW => ?_)
  refine W.eq (g2 := F0 m 1507 ls [.int k]) rfl ?_
  refine lv_iload E.1 E.2.1 dL_law_1507 (lv_at hl 1 rfl) ?_
  refine lv_icmp_eq (tgt := 1514) E.1 E.2.1 dL_law_1509 (by decide) (fun g => ?_) (fun g => absurd rfl g)
  refine lv_iload E.1 E.2.1 dL_law_1514 (lv_at hl 1 rfl) ?_
  refine lv_if_ne (tgt := 1531) E.1 E.2.1 dL_law_1516 (by decide) (fun g => ?_) (fun g => ?_)
  · skip
    refine lv_goto (tgt := 1704) E.1 E.2.1 dL_law_1531 (by decide) ?_
    exact kk (cells + 4) (slots + 24) _ _ _ (by omega) (by omega) hW (lv_sub hl [2, 3, 4, 5, 6] rfl)
  · have hk := hk g
    refine lv_aload_n E.1 E.2.1 dL_law_1519 rfl (lv_at hl 5 rfl) ?_
    refine lv_iconst (v := (0 : Int32)) E.1 E.2.1 dL_law_1520 (by decide) ?_
    refine r_lald E hW (q := 311) (n := 1) rfl vin01 dL_law_1521 ?_
    refine W.eq (g2 := F0 m 1522 ls [.long (ρ'.2 0 0)]) rfl ?_
    refine lv_iload E.1 E.2.1 dL_law_1522 (lv_at hl 0 rfl) ?_
    refine lv_i2l E.1 E.2.1 dL_law_1524 rfl ?_
    refine r_lc_eq E dL_law_1525 dL_law_1526 (tgt := 1531) (by decide) (fun g2 => ?_) (fun g2 => absurd hk g2)
    refine lv_goto (tgt := 1704) E.1 E.2.1 dL_law_1531 (by decide) ?_
    exact kk (cells + 4) (slots + 24) _ _ _ (by omega) (by omega) hW (lv_sub hl [2, 3, 4, 5, 6] rfl)
set_option maxHeartbeats 4000000 in
set_option maxRecDepth 100000 in
theorem L_setRemainder {p : Program} {l : Launch} {e : Env} {s : State} {m : MethodId} {args : Array Value} {below : List Frame} {meth : Method} {c : Code} {H : Heap} {locs : List Loc} {cells slots : Nat} {Q : State → Prop} {G : GP} {A0 : Nat → Prop} {σ τ ρ σ' τ' ρ' : St} {ls : Array Slot} {bs L : Nat} {xs : Nat → Int32} {i4 a1 a2 a3 a4 a5 : Int32} (E : En p m c s cL_law 7 RL G A0) (hN : Nc4 s) (hl9 : l.stackTraces = false) (hX : va_X bs L xs s s.heap) (hbl : bs < s.heap.size) (hbA : ¬ A0 bs) (hW : Wo G skA A0 s (jn σ τ ρ) H locs)
    (y1 : vp_in (i4 + 1) L ∧ xs (i4 + 1).toNatClampNeg = a1) (y2 : vp_in (i4 + 2) L ∧ xs (i4 + 2).toNatClampNeg = a2) (y3 : vp_in (i4 + 3) L ∧ xs (i4 + 3).toNatClampNeg = a3) (y4 : vp_in (i4 + 4) L ∧ xs (i4 + 4).toNatClampNeg = a4) (y5 : vp_in (i4 + 5) L ∧ xs (i4 + 5).toNatClampNeg = a5)
    (hl : lv_has ls 7 [(0, .ref bs), (1, .ref (G.2.2.2 + 0)), (2, .ref (G.2.2.2 + 258)), (3, .ref (G.2.2.2 + 311)), (4, .int i4)]) (hcs : cells + 8 ≤ 601024 ∧ slots + 48 ≤ 7293034) (h : wst (f_L_setRemainder a1 a2 a3 σ ρ) (f_X7_setRemainder 0 a1 a2 a3 τ) Int32.toInt64 = some (σ', τ', ρ'))
    (kk : ∀ (cells1 slots1 : Nat) (H1 : Heap) (locs1 : List Loc) (ls1 : Array Slot), cells1 ≤ cells + 8 → slots1 ≤ slots + 48 → Wo G skA A0 s (jn σ' τ' ρ') H1 locs1 → lv_has ls1 7 [(0, .ref bs), (1, .ref (G.2.2.2 + 0)), (2, .ref (G.2.2.2 + 258)), (3, .ref (G.2.2.2 + 311)), (4, .int i4)] → W p l e room_1 s m args below meth c H1 locs1 cells1 slots1 Q (F0 m 1704 ls1 [])) :
    W p l e room_1 s m args below meth c H locs cells slots Q (F0 m 1534 ls []) := by
  obtain ⟨k, v, τ1, hc6, hc7, hct, hk⟩ := wst_r h
  refine lv_aload_n E.1 E.2.1 dL_law_1534 rfl (lv_at hl 1 rfl) ?_
  refine lv_aload_n E.1 E.2.1 dL_law_1535 rfl (lv_at hl 0 rfl) ?_
  refine lv_iload E.1 E.2.1 dL_law_1536 (lv_at hl 4 rfl) ?_
  refine lv_iconst (v := (1 : Int32)) E.1 E.2.1 dL_law_1538 (by decide) ?_
  refine lv_iadd E.1 E.2.1 dL_law_1539 ?_
  refine va_sld E.1 E.2.1 hX hbl hbA hW.2.1 y1.1 dL_law_1540 ?_
  rw [y1.2]
  refine lv_aload_n E.1 E.2.1 dL_law_1541 rfl (lv_at hl 0 rfl) ?_
  refine lv_iload E.1 E.2.1 dL_law_1542 (lv_at hl 4 rfl) ?_
  refine lv_iconst (v := (2 : Int32)) E.1 E.2.1 dL_law_1544 (by decide) ?_
  refine lv_iadd E.1 E.2.1 dL_law_1545 ?_
  refine va_sld E.1 E.2.1 hX hbl hbA hW.2.1 y2.1 dL_law_1546 ?_
  rw [y2.2]
  refine lv_aload_n E.1 E.2.1 dL_law_1547 rfl (lv_at hl 0 rfl) ?_
  refine lv_iload E.1 E.2.1 dL_law_1548 (lv_at hl 4 rfl) ?_
  refine lv_iconst (v := (3 : Int32)) E.1 E.2.1 dL_law_1550 (by decide) ?_
  refine lv_iadd E.1 E.2.1 dL_law_1551 ?_
  refine va_sld E.1 E.2.1 hX hbl hbA hW.2.1 y3.1 dL_law_1552 ?_
  rw [y3.2]
  refine lv_aload_n E.1 E.2.1 dL_law_1553 rfl (lv_at hl 3 rfl) ?_
  refine c_SW (As := [.ref (G.2.2.2 + 0), .int a1, .int a2, .int a3, .ref (G.2.2.2 + 311)]) (rest := []) E hN hW (m_L_setRemainder (sz := H.size) (τ := τ) hl9 hc6) kw_881 ⟨kw_882, ini_L, kw_883⟩ (⟨⟨by decide +kernel, by decide +kernel⟩, by decide +kernel⟩ : yOK yL_setRemainder 5) ⟨rfl, rfl⟩ ⟨(Nat.le_of_ble_eq_true rfl), (Nat.le_of_ble_eq_true rfl)⟩ (lv_size hl) (Nat.le_of_ble_eq_true rfl) ⟨show cells + 4 ≤ 601024 by omega, show slots + 24 ≤ 7293034 by omega⟩ rfl dL_law_1554 (fun H locs hW => ?_)
  refine W.eq (g2 := F0 m 1557 ls [.int k]) rfl ?_
  refine lv_istore (lv' := [(5, .int k), (0, .ref bs), (1, .ref (G.2.2.2 + 0)), (2, .ref (G.2.2.2 + 258)), (3, .ref (G.2.2.2 + 311)), (4, .int i4)]) E.1 E.2.1 dL_law_1557 hl (by decide) rfl (fun ls hl => ?_)
  refine lv_aload_n E.1 E.2.1 dL_law_1559 rfl (lv_at hl 3 rfl) ?_
  refine lv_aload_n E.1 E.2.1 dL_law_1560 rfl (lv_at hl 1 rfl) ?_
  refine lv_iload E.1 E.2.1 dL_law_1561 (lv_at hl 5 rfl) ?_
  refine lv_iconst (v := (1 : Int32)) E.1 E.2.1 dL_law_1563 (by decide) ?_
  refine lv_iadd E.1 E.2.1 dL_law_1564 ?_
  refine va_sld E.1 E.2.1 hX hbl hbA hW.2.1 y1.1 dL_law_1565 ?_
  rw [y1.2]
  refine lv_aload_n E.1 E.2.1 dL_law_1566 rfl (lv_at hl 1 rfl) ?_
  refine lv_iload E.1 E.2.1 dL_law_1567 (lv_at hl 5 rfl) ?_
  refine lv_iconst (v := (2 : Int32)) E.1 E.2.1 dL_law_1569 (by decide) ?_
  refine lv_iadd E.1 E.2.1 dL_law_1570 ?_
  refine va_sld E.1 E.2.1 hX hbl hbA hW.2.1 y2.1 dL_law_1571 ?_
  rw [y2.2]
  refine lv_aload_n E.1 E.2.1 dL_law_1572 rfl (lv_at hl 1 rfl) ?_
  refine lv_iload E.1 E.2.1 dL_law_1573 (lv_at hl 5 rfl) ?_
  refine lv_iconst (v := (3 : Int32)) E.1 E.2.1 dL_law_1575 (by decide) ?_
  refine lv_iadd E.1 E.2.1 dL_law_1576 ?_
  refine va_sld E.1 E.2.1 hX hbl hbA hW.2.1 y3.1 dL_law_1577 ?_
  rw [y3.2]
  refine l_R (As := [.int a1, .int a2, .int a3]) (rest := []) E hW (m_X7_setRemainder (sz := H.size) hc7) rfl kw_1299 (⟨kw_1300, kw_1301, kw_8, kw_1302⟩ : wV yX7_setRemainder cX7_setRemainder 6 (some .int)) (⟨⟨by decide +kernel, by decide +kernel⟩, by decide +kernel⟩ : yOK yX7_setRemainder 3) ⟨rfl, rfl⟩ ⟨(Nat.le_of_ble_eq_true rfl), (Nat.le_of_ble_eq_true rfl)⟩ (lv_size hl) (Nat.le_of_ble_eq_true rfl) ⟨show cells + 4 ≤ 601024 by omega, show slots + 24 ≤ 7293034 by omega⟩ rfl dL_law_1578 (fun H locs hW => ?_)
  refine W.eq (g2 := F0 m 1581 ls [.int v]) rfl ?_
  refine lv_istore (lv' := [(6, .int v), (5, .int k), (0, .ref bs), (1, .ref (G.2.2.2 + 0)), (2, .ref (G.2.2.2 + 258)), (3, .ref (G.2.2.2 + 311)), (4, .int i4)]) E.1 E.2.1 dL_law_1581 hl (by decide) rfl (fun ls hl => ?_)
  refine lv_aload_n E.1 E.2.1 dL_law_1583 rfl (lv_at hl 4 rfl) ?_
  refine l_R (As := []) (rest := []) E hW (m_X7_thrown (sz := H.size) hct) rfl kw_1000 (⟨kw_1001, kw_1002, kw_8, kw_1003⟩ : wV yX7_thrown cX7_thrown 1 (some .int)) (⟨⟨by decide +kernel, by decide +kernel⟩, by decide +kernel⟩ : yOK yX7_thrown 0) ⟨rfl, rfl⟩ ⟨(Nat.le_of_ble_eq_true rfl), (Nat.le_of_ble_eq_true rfl)⟩ (lv_size hl) (Nat.le_of_ble_eq_true rfl) ⟨show cells + 4 ≤ 601024 by omega, show slots + 24 ≤ 7293034 by omega⟩ rfl dL_law_1584 (fun H locs hW => ?_)
  refine W.eq (g2 := F0 m 1587 ls [.int k]) rfl ?_
  refine lv_iload E.1 E.2.1 dL_law_1587 (lv_at hl 1 rfl) ?_
  refine lv_icmp_eq (tgt := 1594) E.1 E.2.1 dL_law_1589 (by decide) (fun g => ?_) (fun g => absurd rfl g)
  refine lv_iload E.1 E.2.1 dL_law_1594 (lv_at hl 1 rfl) ?_
  refine lv_if_ne (tgt := 1611) E.1 E.2.1 dL_law_1596 (by decide) (fun g => ?_) (fun g => ?_)
  · skip
    refine lv_goto (tgt := 1704) E.1 E.2.1 dL_law_1611 (by decide) ?_
    exact kk (cells + 4) (slots + 24) _ _ _ (by omega) (by omega) hW (lv_sub hl [2, 3, 4, 5, 6] rfl)
  · have hk := hk g
    refine lv_aload_n E.1 E.2.1 dL_law_1599 rfl (lv_at hl 5 rfl) ?_
    refine lv_iconst (v := (0 : Int32)) E.1 E.2.1 dL_law_1600 (by decide) ?_
    refine r_lald E hW (q := 311) (n := 1) rfl vin01 dL_law_1601 ?_
    refine W.eq (g2 := F0 m 1602 ls [.long (ρ'.2 0 0)]) rfl ?_
    refine lv_iload E.1 E.2.1 dL_law_1602 (lv_at hl 0 rfl) ?_
    refine lv_i2l E.1 E.2.1 dL_law_1604 rfl ?_
    refine r_lc_eq E dL_law_1605 dL_law_1606 (tgt := 1611) (by decide) (fun g2 => ?_) (fun g2 => absurd hk g2)
    refine lv_goto (tgt := 1704) E.1 E.2.1 dL_law_1611 (by decide) ?_
    exact kk (cells + 4) (slots + 24) _ _ _ (by omega) (by omega) hW (lv_sub hl [2, 3, 4, 5, 6] rfl)
set_option maxHeartbeats 4000000 in
set_option maxRecDepth 100000 in
theorem L_clear {p : Program} {l : Launch} {e : Env} {s : State} {m : MethodId} {args : Array Value} {below : List Frame} {meth : Method} {c : Code} {H : Heap} {locs : List Loc} {cells slots : Nat} {Q : State → Prop} {G : GP} {A0 : Nat → Prop} {σ τ ρ σ' τ' ρ' : St} {ls : Array Slot} {bs L : Nat} {xs : Nat → Int32} {i4 a1 a2 a3 a4 a5 : Int32} (E : En p m c s cL_law 7 RL G A0) (hN : Nc4 s) (hl9 : l.stackTraces = false) (hX : va_X bs L xs s s.heap) (hbl : bs < s.heap.size) (hbA : ¬ A0 bs) (hW : Wo G skA A0 s (jn σ τ ρ) H locs)
    (y1 : vp_in (i4 + 1) L ∧ xs (i4 + 1).toNatClampNeg = a1) (y2 : vp_in (i4 + 2) L ∧ xs (i4 + 2).toNatClampNeg = a2) (y3 : vp_in (i4 + 3) L ∧ xs (i4 + 3).toNatClampNeg = a3) (y4 : vp_in (i4 + 4) L ∧ xs (i4 + 4).toNatClampNeg = a4) (y5 : vp_in (i4 + 5) L ∧ xs (i4 + 5).toNatClampNeg = a5)
    (hl : lv_has ls 7 [(0, .ref bs), (1, .ref (G.2.2.2 + 0)), (2, .ref (G.2.2.2 + 258)), (3, .ref (G.2.2.2 + 311)), (4, .int i4)]) (hcs : cells + 8 ≤ 601024 ∧ slots + 48 ≤ 7293034) (h : wst (f_L_clear a1 σ ρ) (f_X7_clear 0 a1 τ) tz = some (σ', τ', ρ'))
    (kk : ∀ (cells1 slots1 : Nat) (H1 : Heap) (locs1 : List Loc) (ls1 : Array Slot), cells1 ≤ cells + 8 → slots1 ≤ slots + 48 → Wo G skA A0 s (jn σ' τ' ρ') H1 locs1 → lv_has ls1 7 [(0, .ref bs), (1, .ref (G.2.2.2 + 0)), (2, .ref (G.2.2.2 + 258)), (3, .ref (G.2.2.2 + 311)), (4, .int i4)] → W p l e room_1 s m args below meth c H1 locs1 cells1 slots1 Q (F0 m 1704 ls1 [])) :
    W p l e room_1 s m args below meth c H locs cells slots Q (F0 m 1614 ls []) := by
  obtain ⟨k, v, τ1, hc6, hc7, hct, hk⟩ := wst_r h
  refine lv_aload_n E.1 E.2.1 dL_law_1614 rfl (lv_at hl 1 rfl) ?_
  refine lv_aload_n E.1 E.2.1 dL_law_1615 rfl (lv_at hl 0 rfl) ?_
  refine lv_iload E.1 E.2.1 dL_law_1616 (lv_at hl 4 rfl) ?_
  refine lv_iconst (v := (1 : Int32)) E.1 E.2.1 dL_law_1618 (by decide) ?_
  refine lv_iadd E.1 E.2.1 dL_law_1619 ?_
  refine va_sld E.1 E.2.1 hX hbl hbA hW.2.1 y1.1 dL_law_1620 ?_
  rw [y1.2]
  refine lv_aload_n E.1 E.2.1 dL_law_1621 rfl (lv_at hl 3 rfl) ?_
  refine c_SW (As := [.ref (G.2.2.2 + 0), .int a1, .ref (G.2.2.2 + 311)]) (rest := []) E hN hW (m_L_clear (sz := H.size) (τ := τ) hl9 hc6) kw_888 ⟨kw_889, ini_L, kw_890⟩ (⟨⟨by decide +kernel, by decide +kernel⟩, by decide +kernel⟩ : yOK yL_clear 3) ⟨rfl, rfl⟩ ⟨(Nat.le_of_ble_eq_true rfl), (Nat.le_of_ble_eq_true rfl)⟩ (lv_size hl) (Nat.le_of_ble_eq_true rfl) ⟨show cells + 1 ≤ 601024 by omega, show slots + 6 ≤ 7293034 by omega⟩ rfl dL_law_1622 (fun H locs hW => ?_)
  refine W.eq (g2 := F0 m 1625 ls [.int k]) rfl ?_
  refine lv_istore (lv' := [(5, .int k), (0, .ref bs), (1, .ref (G.2.2.2 + 0)), (2, .ref (G.2.2.2 + 258)), (3, .ref (G.2.2.2 + 311)), (4, .int i4)]) E.1 E.2.1 dL_law_1625 hl (by decide) rfl (fun ls hl => ?_)
  refine lv_aload_n E.1 E.2.1 dL_law_1627 rfl (lv_at hl 3 rfl) ?_
  refine lv_aload_n E.1 E.2.1 dL_law_1628 rfl (lv_at hl 1 rfl) ?_
  refine lv_iload E.1 E.2.1 dL_law_1629 (lv_at hl 5 rfl) ?_
  refine lv_iconst (v := (1 : Int32)) E.1 E.2.1 dL_law_1631 (by decide) ?_
  refine lv_iadd E.1 E.2.1 dL_law_1632 ?_
  refine va_sld E.1 E.2.1 hX hbl hbA hW.2.1 y1.1 dL_law_1633 ?_
  rw [y1.2]
  refine l_R (As := [.int a1]) (rest := []) E hW (m_X7_clear (sz := H.size) hc7) rfl kw_1303 (⟨kw_1304, kw_1305, kw_8, kw_1306⟩ : wV yX7_clear cX7_clear 3 (some .boolean)) (⟨⟨by decide +kernel, by decide +kernel⟩, by decide +kernel⟩ : yOK yX7_clear 1) ⟨rfl, rfl⟩ ⟨(Nat.le_of_ble_eq_true rfl), (Nat.le_of_ble_eq_true rfl)⟩ (lv_size hl) (Nat.le_of_ble_eq_true rfl) ⟨show cells + 1 ≤ 601024 by omega, show slots + 6 ≤ 7293034 by omega⟩ rfl dL_law_1634 (fun H locs hW => ?_)
  refine W.eq (g2 := F0 m 1637 ls [.int v]) rfl ?_
  refine lv_istore (lv' := [(6, .int v), (5, .int k), (0, .ref bs), (1, .ref (G.2.2.2 + 0)), (2, .ref (G.2.2.2 + 258)), (3, .ref (G.2.2.2 + 311)), (4, .int i4)]) E.1 E.2.1 dL_law_1637 hl (by decide) rfl (fun ls hl => ?_)
  refine lv_aload_n E.1 E.2.1 dL_law_1639 rfl (lv_at hl 4 rfl) ?_
  refine l_R (As := []) (rest := []) E hW (m_X7_thrown (sz := H.size) hct) rfl kw_1000 (⟨kw_1001, kw_1002, kw_8, kw_1003⟩ : wV yX7_thrown cX7_thrown 1 (some .int)) (⟨⟨by decide +kernel, by decide +kernel⟩, by decide +kernel⟩ : yOK yX7_thrown 0) ⟨rfl, rfl⟩ ⟨(Nat.le_of_ble_eq_true rfl), (Nat.le_of_ble_eq_true rfl)⟩ (lv_size hl) (Nat.le_of_ble_eq_true rfl) ⟨show cells + 1 ≤ 601024 by omega, show slots + 6 ≤ 7293034 by omega⟩ rfl dL_law_1640 (fun H locs hW => ?_)
  refine W.eq (g2 := F0 m 1643 ls [.int k]) rfl ?_
  refine lv_iload E.1 E.2.1 dL_law_1643 (lv_at hl 1 rfl) ?_
  refine lv_icmp_eq (tgt := 1650) E.1 E.2.1 dL_law_1645 (by decide) (fun g => ?_) (fun g => absurd rfl g)
  refine lv_iload E.1 E.2.1 dL_law_1650 (lv_at hl 1 rfl) ?_
  refine lv_if_ne (tgt := 1674) E.1 E.2.1 dL_law_1652 (by decide) (fun g => ?_) (fun g => ?_)
  · skip
    refine lv_goto (tgt := 1704) E.1 E.2.1 dL_law_1674 (by decide) ?_
    exact kk (cells + 1) (slots + 6) _ _ _ (by omega) (by omega) hW (lv_sub hl [2, 3, 4, 5, 6] rfl)
  · have hk := hk g
    refine lv_aload_n E.1 E.2.1 dL_law_1655 rfl (lv_at hl 5 rfl) ?_
    refine lv_iconst (v := (0 : Int32)) E.1 E.2.1 dL_law_1656 (by decide) ?_
    refine r_lald E hW (q := 311) (n := 1) rfl vin01 dL_law_1657 ?_
    refine W.eq (g2 := F0 m 1658 ls [.long (ρ'.2 0 0)]) rfl ?_
    refine lv_iload E.1 E.2.1 dL_law_1658 (lv_at hl 0 rfl) ?_
    refine lv_if_eq (tgt := 1667) E.1 E.2.1 dL_law_1660 (by decide) (fun g => ?_) (fun g => ?_)
    · refine lv_lconst (v := (0 : Int64)) E.1 E.2.1 dL_law_1667 (by decide) ?_
      refine r_lc_eq E dL_law_1668 dL_law_1669 (tgt := 1674) (by decide) (fun g2 => ?_) (fun g2 => absurd (by rw [hk]; simp [tz, g]) g2)
      refine lv_goto (tgt := 1704) E.1 E.2.1 dL_law_1674 (by decide) ?_
      exact kk (cells + 1) (slots + 6) _ _ _ (by omega) (by omega) hW (lv_sub hl [2, 3, 4, 5, 6] rfl)
    · refine lv_lconst (v := (1 : Int64)) E.1 E.2.1 dL_law_1663 (by decide) ?_
      refine lv_goto (tgt := 1668) E.1 E.2.1 dL_law_1664 (by decide) ?_
      refine r_lc_eq E dL_law_1668 dL_law_1669 (tgt := 1674) (by decide) (fun g2 => ?_) (fun g2 => absurd (by rw [hk]; simp [tz, g]) g2)
      refine lv_goto (tgt := 1704) E.1 E.2.1 dL_law_1674 (by decide) ?_
      exact kk (cells + 1) (slots + 6) _ _ _ (by omega) (by omega) hW (lv_sub hl [2, 3, 4, 5, 6] rfl)
set_option maxHeartbeats 4000000 in
set_option maxRecDepth 100000 in
theorem L_undo {p : Program} {l : Launch} {e : Env} {s : State} {m : MethodId} {args : Array Value} {below : List Frame} {meth : Method} {c : Code} {H : Heap} {locs : List Loc} {cells slots : Nat} {Q : State → Prop} {G : GP} {A0 : Nat → Prop} {σ τ ρ σ' τ' ρ' : St} {ls : Array Slot} {bs L : Nat} {xs : Nat → Int32} {i4 a1 a2 a3 a4 a5 : Int32} (E : En p m c s cL_law 7 RL G A0) (hN : Nc4 s) (hl9 : l.stackTraces = false) (hX : va_X bs L xs s s.heap) (hbl : bs < s.heap.size) (hbA : ¬ A0 bs) (hW : Wo G skA A0 s (jn σ τ ρ) H locs)
    (y1 : vp_in (i4 + 1) L ∧ xs (i4 + 1).toNatClampNeg = a1) (y2 : vp_in (i4 + 2) L ∧ xs (i4 + 2).toNatClampNeg = a2) (y3 : vp_in (i4 + 3) L ∧ xs (i4 + 3).toNatClampNeg = a3) (y4 : vp_in (i4 + 4) L ∧ xs (i4 + 4).toNatClampNeg = a4) (y5 : vp_in (i4 + 5) L ∧ xs (i4 + 5).toNatClampNeg = a5)
    (hl : lv_has ls 7 [(0, .ref bs), (1, .ref (G.2.2.2 + 0)), (2, .ref (G.2.2.2 + 258)), (3, .ref (G.2.2.2 + 311)), (4, .int i4)]) (hcs : cells + 8 ≤ 601024 ∧ slots + 48 ≤ 7293034) (h : dst (f_X6_undo 0  σ) (f_X7_undo 0  τ) ρ = some (σ', τ', ρ'))
    (kk : ∀ (cells1 slots1 : Nat) (H1 : Heap) (locs1 : List Loc) (ls1 : Array Slot), cells1 ≤ cells + 8 → slots1 ≤ slots + 48 → Wo G skA A0 s (jn σ' τ' ρ') H1 locs1 → lv_has ls1 7 [(0, .ref bs), (1, .ref (G.2.2.2 + 0)), (2, .ref (G.2.2.2 + 258)), (3, .ref (G.2.2.2 + 311)), (4, .int i4)] → W p l e room_1 s m args below meth c H1 locs1 cells1 slots1 Q (F0 m 1704 ls1 [])) :
    W p l e room_1 s m args below meth c H locs cells slots Q (F0 m 1677 ls []) := by
  obtain ⟨v, hc6, hc7, rfl⟩ := dst_r h
  refine lv_aload_n E.1 E.2.1 dL_law_1677 rfl (lv_at hl 1 rfl) ?_
  refine l_C (As := []) (rest := []) E hW (m_X6_undo (sz := H.size) hc6) rfl kw_240 (⟨kw_241, kw_242, kw_1, kw_243⟩ : wV yX6_undo cX6_undo 1 (some .int)) (⟨⟨by decide +kernel, by decide +kernel⟩, by decide +kernel⟩ : yOK yX6_undo 0) ⟨rfl, rfl⟩ ⟨(Nat.le_of_ble_eq_true rfl), (Nat.le_of_ble_eq_true rfl)⟩ (lv_size hl) (Nat.le_of_ble_eq_true rfl) ⟨show cells ≤ 601024 by omega, show slots ≤ 7293034 by omega⟩ rfl dL_law_1678 (fun H locs hW => ?_)
  refine W.eq (g2 := F0 m 1681 ls [.int v]) rfl ?_
  refine lv_aload_n E.1 E.2.1 dL_law_1681 rfl (lv_at hl 2 rfl) ?_
  refine l_R (As := []) (rest := [.int v]) E hW (m_X7_undo (sz := H.size) hc7) rfl kw_1307 (⟨kw_1308, kw_1309, kw_8, kw_1310⟩ : wV yX7_undo cX7_undo 1 (some .int)) (⟨⟨by decide +kernel, by decide +kernel⟩, by decide +kernel⟩ : yOK yX7_undo 0) ⟨rfl, rfl⟩ ⟨(Nat.le_of_ble_eq_true rfl), (Nat.le_of_ble_eq_true rfl)⟩ (lv_size hl) (Nat.le_of_ble_eq_true rfl) ⟨show cells ≤ 601024 by omega, show slots ≤ 7293034 by omega⟩ rfl dL_law_1682 (fun H locs hW => ?_)
  refine W.eq (g2 := F0 m 1685 ls [.int v, .int v]) rfl ?_
  refine lv_icmp_eq (tgt := 1704) E.1 E.2.1 dL_law_1685 (by decide) (fun g => ?_) (fun g => absurd rfl g)
  exact kk cells slots _ _ _ (by omega) (by omega) hW (lv_sub hl [0, 1, 2, 3, 4] rfl)
set_option maxHeartbeats 4000000 in
set_option maxRecDepth 100000 in
theorem L_checksum {p : Program} {l : Launch} {e : Env} {s : State} {m : MethodId} {args : Array Value} {below : List Frame} {meth : Method} {c : Code} {H : Heap} {locs : List Loc} {cells slots : Nat} {Q : State → Prop} {G : GP} {A0 : Nat → Prop} {σ τ ρ σ' τ' ρ' : St} {ls : Array Slot} {bs L : Nat} {xs : Nat → Int32} {i4 a1 a2 a3 a4 a5 : Int32} (E : En p m c s cL_law 7 RL G A0) (hN : Nc4 s) (hl9 : l.stackTraces = false) (hX : va_X bs L xs s s.heap) (hbl : bs < s.heap.size) (hbA : ¬ A0 bs) (hW : Wo G skA A0 s (jn σ τ ρ) H locs)
    (y1 : vp_in (i4 + 1) L ∧ xs (i4 + 1).toNatClampNeg = a1) (y2 : vp_in (i4 + 2) L ∧ xs (i4 + 2).toNatClampNeg = a2) (y3 : vp_in (i4 + 3) L ∧ xs (i4 + 3).toNatClampNeg = a3) (y4 : vp_in (i4 + 4) L ∧ xs (i4 + 4).toNatClampNeg = a4) (y5 : vp_in (i4 + 5) L ∧ xs (i4 + 5).toNatClampNeg = a5)
    (hl : lv_has ls 7 [(0, .ref bs), (1, .ref (G.2.2.2 + 0)), (2, .ref (G.2.2.2 + 258)), (3, .ref (G.2.2.2 + 311)), (4, .int i4)]) (hcs : cells + 8 ≤ 601024 ∧ slots + 48 ≤ 7293034) (h : dst (f_X6_checksum 0  σ) (f_X7_checksum 0  τ) ρ = some (σ', τ', ρ'))
    (kk : ∀ (cells1 slots1 : Nat) (H1 : Heap) (locs1 : List Loc) (ls1 : Array Slot), cells1 ≤ cells + 8 → slots1 ≤ slots + 48 → Wo G skA A0 s (jn σ' τ' ρ') H1 locs1 → lv_has ls1 7 [(0, .ref bs), (1, .ref (G.2.2.2 + 0)), (2, .ref (G.2.2.2 + 258)), (3, .ref (G.2.2.2 + 311)), (4, .int i4)] → W p l e room_1 s m args below meth c H1 locs1 cells1 slots1 Q (F0 m 1704 ls1 [])) :
    W p l e room_1 s m args below meth c H locs cells slots Q (F0 m 1690 ls []) := by
  obtain ⟨v, hc6, hc7, rfl⟩ := dst_r h
  refine lv_aload_n E.1 E.2.1 dL_law_1690 rfl (lv_at hl 1 rfl) ?_
  refine l_C (As := []) (rest := []) E hW (m_X6_checksum (sz := H.size) hc6) rfl kw_259 (⟨kw_260, kw_261, kw_1, kw_262⟩ : wV yX6_checksum cX6_checksum 4 (some .long)) (⟨⟨by decide +kernel, by decide +kernel⟩, by decide +kernel⟩ : yOK yX6_checksum 0) ⟨rfl, rfl⟩ ⟨(Nat.le_of_ble_eq_true rfl), (Nat.le_of_ble_eq_true rfl)⟩ (lv_size hl) (Nat.le_of_ble_eq_true rfl) ⟨show cells ≤ 601024 by omega, show slots ≤ 7293034 by omega⟩ rfl dL_law_1691 (fun H locs hW => ?_)
  refine W.eq (g2 := F0 m 1694 ls [.long v]) rfl ?_
  refine lv_aload_n E.1 E.2.1 dL_law_1694 rfl (lv_at hl 2 rfl) ?_
  refine l_R (As := []) (rest := [.long v]) E hW (m_X7_checksum (sz := H.size) hc7) rfl kw_1311 (⟨kw_1312, kw_1313, kw_8, kw_1314⟩ : wV yX7_checksum cX7_checksum 5 (some .long)) (⟨⟨by decide +kernel, by decide +kernel⟩, by decide +kernel⟩ : yOK yX7_checksum 0) ⟨rfl, rfl⟩ ⟨(Nat.le_of_ble_eq_true rfl), (Nat.le_of_ble_eq_true rfl)⟩ (lv_size hl) (Nat.le_of_ble_eq_true rfl) ⟨show cells ≤ 601024 by omega, show slots ≤ 7293034 by omega⟩ rfl dL_law_1695 (fun H locs hW => ?_)
  refine W.eq (g2 := F0 m 1698 ls [.long v, .long v]) rfl ?_
  refine r_lc_eq E dL_law_1698 dL_law_1699 (tgt := 1704) (by decide) (fun g2 => ?_) (fun g2 => absurd rfl g2)
  exact kk cells slots _ _ _ (by omega) (by omega) hW (lv_sub hl [0, 1, 2, 3, 4] rfl)
