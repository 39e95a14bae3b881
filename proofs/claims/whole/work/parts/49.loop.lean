theorem and31 (x : Int32) : ∃ j, j < 32 ∧ x &&& 31 = nI j := by
  refine ⟨(x &&& 31).toBitVec.toNat, ?_, ?_⟩
  · rw [Int32.toBitVec_and, BitVec.toNat_and]
    exact Nat.lt_of_le_of_lt Nat.and_le_right (by decide)
  · apply Int32.toBitVec_inj.mp
    show _ = (Int32.ofNat _).toBitVec
    rw [Int32.toBitVec_ofNat', BitVec.ofNat_toNat]
    simp
theorem sub6 {L i : Nat} (hL : L ≤ 3072) (hi : i ≤ 3072) : (nI i > Int32.ofNat L - 6) ↔ L < i + 6 := by
  have h6 : Int32.ofNat L = nI L := rfl
  rw [h6]
  rcases Nat.lt_or_ge L 6 with h | h
  · refine ⟨fun _ => by omega, fun _ => ?_⟩
    have hi := nI_toInt (n := i) (by omega)
    show nI L - 6 < nI i
    rw [Int32.lt_iff_toInt_lt, hi]
    have : ∀ k, k < 6 → (nI k - 6).toInt < 0 := by decide
    have := this L h
    omega
  · obtain ⟨k, rfl⟩ : ∃ k, L = k + 6 := ⟨L - 6, by omega⟩
    have e : nI (k + 6) - 6 = nI k := by rw [← nI_add]; exact Int32.add_sub_cancel _ _
    show nI (k + 6) - 6 < nI i ↔ _
    rw [e, nI_ltI (by omega) (by omega)]
    omega
def rn (xs : Nat → Int32) : Nat → Nat → St → St → St → Option (St × St × St)
  | 0, _, σ, τ, ρ => some (σ, τ, ρ)
  | n + 1, i, σ, τ, ρ => match stp (xs i &&& 31).toNatClampNeg (xs (i + 1)) (xs (i + 2)) (xs (i + 3)) (xs (i + 4)) (xs (i + 5)) σ τ ρ with
    | some (σ1, τ1, ρ1) => rn xs n (i + 6) σ1 τ1 ρ1
    | none => none
theorem rn_r {xs : Nat → Int32} {n i : Nat} {σ τ ρ : St} {r : St × St × St} (h : rn xs (n + 1) i σ τ ρ = some r) : ∃ σ1 τ1 ρ1, stp (xs i &&& 31).toNatClampNeg (xs (i + 1)) (xs (i + 2)) (xs (i + 3)) (xs (i + 4)) (xs (i + 5)) σ τ ρ = some (σ1, τ1, ρ1) ∧ rn xs n (i + 6) σ1 τ1 ρ1 = some r := by
  rw [rn] at h
  rcases hs : stp (xs i &&& 31).toNatClampNeg (xs (i + 1)) (xs (i + 2)) (xs (i + 3)) (xs (i + 4)) (xs (i + 5)) σ τ ρ with _ | ⟨σ1, τ1, ρ1⟩
  · rw [hs] at h; cases h
  · rw [hs] at h; exact ⟨σ1, τ1, ρ1, rfl, h⟩
set_option maxHeartbeats 4000000 in
set_option maxRecDepth 100000 in
theorem law_loop {p : Program} {l : Launch} {e : Env} {s : State} {m : MethodId} {below : List Frame} {meth : Method} {c : Code} {G : GP} {bs L : Nat} {xs : Nat → Int32} (hL : L ≤ 3072) (E : En p m c s cL_law 7 RL G (fun q => s.heap.size ≤ q)) (hN : Nc4 s) (hl9 : l.stackTraces = false) (hX : va_X bs L xs s s.heap) (hbl : bs < s.heap.size) (hr : meth.sig.returnType = ret) (hlk : meth.locks = false) :
    ∀ (n i : Nat) (σ τ ρ : St) (r : St × St × St) (H : Heap) (locs : List Loc) (cells slots : Nat) (ls : Array Slot), i + 6 * n ≤ L → L < i + 6 * n + 6 → rn xs n i σ τ ρ = some r → cells + 8 * n ≤ 600000 → slots + 48 * n ≤ 7000000 → Wo G skA (fun q => s.heap.size ≤ q) s (jn σ τ ρ) H locs → lv_has ls 7 [(0, .ref bs), (1, .ref (G.2.2.2 + 0)), (2, .ref (G.2.2.2 + 258)), (3, .ref (G.2.2.2 + 311)), (4, .int (nI i))] →
      W p l e room_1 s m #[Value.ref bs] below meth c H locs cells slots (lw_Z below #[Value.ref bs] s) (F0 m 23 ls []) := by
  have hbA : ¬ (fun q : Nat => s.heap.size ≤ q) bs := Nat.not_le.mpr hbl
  intro n
  induction n with
  | zero =>
    intro i σ τ ρ r H locs cells slots ls h1 h2 h hc hs hW hl
    refine lv_iload E.1 E.2.1 dL_law_23 (lv_at hl 4 rfl) ?_
    refine lv_aload_n E.1 E.2.1 dL_law_25 rfl (lv_at hl 0 rfl) ?_
    refine va_slen E.1 E.2.1 hX hbl hbA hW.2.1 dL_law_26 ?_
    refine lv_bipush (v := (6 : Int32)) E.1 E.2.1 dL_law_27 (by decide) ?_
    refine lv_isub E.1 E.2.1 dL_law_29 ?_
    refine lv_icmp_gt (tgt := 1710) E.1 E.2.1 dL_law_30 (by decide) (fun g => ?_) (fun g => absurd ((sub6 hL (by omega)).mpr (by omega)) g)
    refine lv_iconst (v := (1 : Int32)) E.1 E.2.1 dL_law_1710 (by decide) ?_
    refine va_forget (fun q hq => hW.2.1.2.2 q hq) ?_
    refine W.widen (k := 601024) (n := 7293034) (by omega) (by omega) ?_
    exact lw_ret E.1 E.2.1 hr hlk dL_law_1711
  | succ n ih =>
    intro i σ τ ρ r H locs cells slots ls h1 h2 h hc hs hW hl
    obtain ⟨σ1, τ1, ρ1, hst, h⟩ := rn_r h
    refine lv_iload E.1 E.2.1 dL_law_23 (lv_at hl 4 rfl) ?_
    refine lv_aload_n E.1 E.2.1 dL_law_25 rfl (lv_at hl 0 rfl) ?_
    refine va_slen E.1 E.2.1 hX hbl hbA hW.2.1 dL_law_26 ?_
    refine lv_bipush (v := (6 : Int32)) E.1 E.2.1 dL_law_27 (by decide) ?_
    refine lv_isub E.1 E.2.1 dL_law_29 ?_
    refine lv_icmp_gt (tgt := 1710) E.1 E.2.1 dL_law_30 (by decide) (fun g => absurd ((sub6 hL (by omega)).mp g) (by omega)) (fun g => ?_)
    refine lv_aload_n E.1 E.2.1 dL_law_33 rfl (lv_at hl 0 rfl) ?_
    refine lv_iload E.1 E.2.1 dL_law_34 (lv_at hl 4 rfl) ?_
    refine va_sld E.1 E.2.1 hX hbl hbA hW.2.1 (vp_in_nI (by omega) (by omega)) dL_law_36 ?_
    rw [nI_clamp (n := i) (by omega)]
    refine lv_bipush (v := (31 : Int32)) E.1 E.2.1 dL_law_37 (by decide) ?_
    refine lv_iand E.1 E.2.1 dL_law_39 ?_
    have yy : ∀ k : Nat, k < 6 → vp_in (nI i + nI k) L ∧ xs (nI i + nI k).toNatClampNeg = xs (i + k) := by
      intro k hk
      rw [nI_add, nI_clamp (by omega)]
      exact ⟨vp_in_nI (by omega) (by omega), rfl⟩
    have y1 := yy 1 (by decide)
    have y2 := yy 2 (by decide)
    have y3 := yy 3 (by decide)
    have y4 := yy 4 (by decide)
    have y5 := yy 5 (by decide)
    have kk : ∀ (cells1 slots1 : Nat) (H1 : Heap) (locs1 : List Loc) (ls1 : Array Slot), cells1 ≤ cells + 8 → slots1 ≤ slots + 48 → Wo G skA (fun q => s.heap.size ≤ q) s (jn σ1 τ1 ρ1) H1 locs1 → lv_has ls1 7 [(0, .ref bs), (1, .ref (G.2.2.2 + 0)), (2, .ref (G.2.2.2 + 258)), (3, .ref (G.2.2.2 + 311)), (4, .int (nI i))] → W p l e room_1 s m #[Value.ref bs] below meth c H1 locs1 cells1 slots1 (lw_Z below #[Value.ref bs] s) (F0 m 1704 ls1 []) := by
      intro cells1 slots1 H1 locs1 ls1 hc1 hs1 hW1 hl1
      refine lv_iinc (v := nI (i + 6)) (lv' := [(4, .int (nI (i + 6))), (0, .ref bs), (1, .ref (G.2.2.2 + 0)), (2, .ref (G.2.2.2 + 258)), (3, .ref (G.2.2.2 + 311))]) E.1 E.2.1 dL_law_1704 hl1 (k := 4) rfl (nI_add i 6) (by decide) rfl (fun ls hl => ?_)
      refine lv_goto (tgt := 23) E.1 E.2.1 dL_law_1707 (by decide) ?_
      exact ih (i + 6) σ1 τ1 ρ1 r H1 locs1 cells1 slots1 ls (by omega) (by omega) h (by omega) (by omega) hW1 (lv_sub hl [1, 2, 3, 4, 0] rfl)
    have hcs : cells + 8 ≤ 601024 ∧ slots + 48 ≤ 7293034 := by omega
    generalize xs (i + 1) = a1 at y1 hst
    generalize xs (i + 2) = a2 at y2 hst
    generalize xs (i + 3) = a3 at y3 hst
    generalize xs (i + 4) = a4 at y4 hst
    generalize xs (i + 5) = a5 at y5 hst
    clear ih h
    obtain ⟨j, hj, ej⟩ := and31 (xs i)
    rw [ej, nI_clamp (by omega)] at hst
    rw [ej]
    match j, hj, hst with
    | 0, _, hst =>
      refine lv_tableIn (x := nI 0) (tgt := 152) E.1 E.2.1 dL_law_40 (by decide) (by decide) rfl (by decide) ?_
      exact L_append E hN hl9 hX hbl hbA hW y1 y2 y3 y4 y5 hl hcs hst kk
    | 1, _, hst =>
      refine lv_tableIn (x := nI 1) (tgt := 225) E.1 E.2.1 dL_law_40 (by decide) (by decide) rfl (by decide) ?_
      exact L_load E hN hl9 hX hbl hbA hW y1 y2 y3 y4 y5 hl hcs hst kk
    | 2, _, hst =>
      refine lv_tableIn (x := nI 2) (tgt := 281) E.1 E.2.1 dL_law_40 (by decide) (by decide) rfl (by decide) ?_
      exact L_errorOffset E hN hl9 hX hbl hbA hW y1 y2 y3 y4 y5 hl hcs hst kk
    | 3, _, hst =>
      refine lv_tableIn (x := nI 3) (tgt := 294) E.1 E.2.1 dL_law_40 (by decide) (by decide) rfl (by decide) ?_
      exact L_defined E hN hl9 hX hbl hbA hW y1 y2 y3 y4 y5 hl hcs hst kk
    | 4, _, hst =>
      refine lv_tableIn (x := nI 4) (tgt := 307) E.1 E.2.1 dL_law_40 (by decide) (by decide) rfl (by decide) ?_
      exact L_coefficient E hN hl9 hX hbl hbA hW y1 y2 y3 y4 y5 hl hcs hst kk
    | 5, _, hst =>
      refine lv_tableIn (x := nI 5) (tgt := 387) E.1 E.2.1 dL_law_40 (by decide) (by decide) rfl (by decide) ?_
      exact L_remainder E hN hl9 hX hbl hbA hW y1 y2 y3 y4 y5 hl hcs hst kk
    | 6, _, hst =>
      refine lv_tableIn (x := nI 6) (tgt := 455) E.1 E.2.1 dL_law_40 (by decide) (by decide) rfl (by decide) ?_
      exact L_bound E hN hl9 hX hbl hbA hW y1 y2 y3 y4 y5 hl hcs hst kk
    | 7, _, hst =>
      refine lv_tableIn (x := nI 7) (tgt := 523) E.1 E.2.1 dL_law_40 (by decide) (by decide) rfl (by decide) ?_
      exact L_value E hN hl9 hX hbl hbA hW y1 y2 y3 y4 y5 hl hcs hst kk
    | 8, _, hst =>
      refine lv_tableIn (x := nI 8) (tgt := 615) E.1 E.2.1 dL_law_40 (by decide) (by decide) rfl (by decide) ?_
      exact L_degree E hN hl9 hX hbl hbA hW y1 y2 y3 y4 y5 hl hcs hst kk
    | 9, _, hst =>
      refine lv_tableIn (x := nI 9) (tgt := 671) E.1 E.2.1 dL_law_40 (by decide) (by decide) rfl (by decide) ?_
      exact L_covers E hN hl9 hX hbl hbA hW y1 y2 y3 y4 y5 hl hcs hst kk
    | 10, _, hst =>
      refine lv_tableIn (x := nI 10) (tgt := 746) E.1 E.2.1 dL_law_40 (by decide) (by decide) rfl (by decide) ?_
      exact L_reason E hN hl9 hX hbl hbA hW y1 y2 y3 y4 y5 hl hcs hst kk
    | 11, _, hst =>
      refine lv_tableIn (x := nI 11) (tgt := 826) E.1 E.2.1 dL_law_40 (by decide) (by decide) rfl (by decide) ?_
      exact L_add E hN hl9 hX hbl hbA hW y1 y2 y3 y4 y5 hl hcs hst kk
    | 12, _, hst =>
      refine lv_tableIn (x := nI 12) (tgt := 906) E.1 E.2.1 dL_law_40 (by decide) (by decide) rfl (by decide) ?_
      exact L_subtract E hN hl9 hX hbl hbA hW y1 y2 y3 y4 y5 hl hcs hst kk
    | 13, _, hst =>
      refine lv_tableIn (x := nI 13) (tgt := 986) E.1 E.2.1 dL_law_40 (by decide) (by decide) rfl (by decide) ?_
      exact L_multiply E hN hl9 hX hbl hbA hW y1 y2 y3 y4 y5 hl hcs hst kk
    | 14, _, hst =>
      refine lv_tableIn (x := nI 14) (tgt := 1066) E.1 E.2.1 dL_law_40 (by decide) (by decide) rfl (by decide) ?_
      exact L_compose E hN hl9 hX hbl hbA hW y1 y2 y3 y4 y5 hl hcs hst kk
    | 15, _, hst =>
      refine lv_tableIn (x := nI 15) (tgt := 1158) E.1 E.2.1 dL_law_40 (by decide) (by decide) rfl (by decide) ?_
      exact L_integrate E hN hl9 hX hbl hbA hW y1 y2 y3 y4 y5 hl hcs hst kk
    | 16, _, hst =>
      refine lv_tableIn (x := nI 16) (tgt := 1238) E.1 E.2.1 dL_law_40 (by decide) (by decide) rfl (by decide) ?_
      exact L_step E hN hl9 hX hbl hbA hW y1 y2 y3 y4 y5 hl hcs hst kk
    | 17, _, hst =>
      refine lv_tableIn (x := nI 17) (tgt := 1306) E.1 E.2.1 dL_law_40 (by decide) (by decide) rfl (by decide) ?_
      exact L_sweep E hN hl9 hX hbl hbA hW y1 y2 y3 y4 y5 hl hcs hst kk
    | 18, _, hst =>
      refine lv_tableIn (x := nI 18) (tgt := 1374) E.1 E.2.1 dL_law_40 (by decide) (by decide) rfl (by decide) ?_
      exact L_wrap E hN hl9 hX hbl hbA hW y1 y2 y3 y4 y5 hl hcs hst kk
    | 19, _, hst =>
      refine lv_tableIn (x := nI 19) (tgt := 1442) E.1 E.2.1 dL_law_40 (by decide) (by decide) rfl (by decide) ?_
      exact L_setCoefficient E hN hl9 hX hbl hbA hW y1 y2 y3 y4 y5 hl hcs hst kk
    | 20, _, hst =>
      refine lv_tableIn (x := nI 20) (tgt := 1534) E.1 E.2.1 dL_law_40 (by decide) (by decide) rfl (by decide) ?_
      exact L_setRemainder E hN hl9 hX hbl hbA hW y1 y2 y3 y4 y5 hl hcs hst kk
    | 21, _, hst =>
      refine lv_tableIn (x := nI 21) (tgt := 1614) E.1 E.2.1 dL_law_40 (by decide) (by decide) rfl (by decide) ?_
      exact L_clear E hN hl9 hX hbl hbA hW y1 y2 y3 y4 y5 hl hcs hst kk
    | 22, _, hst =>
      refine lv_tableIn (x := nI 22) (tgt := 1677) E.1 E.2.1 dL_law_40 (by decide) (by decide) rfl (by decide) ?_
      exact L_undo E hN hl9 hX hbl hbA hW y1 y2 y3 y4 y5 hl hcs hst kk
    | 23, _, hst =>
      refine lv_tableIn (x := nI 23) (tgt := 1690) E.1 E.2.1 dL_law_40 (by decide) (by decide) rfl (by decide) ?_
      exact L_checksum E hN hl9 hX hbl hbA hW y1 y2 y3 y4 y5 hl hcs hst kk
    | j + 24, hj, hst =>
      obtain ⟨rfl, rfl, rfl⟩ : σ = σ1 ∧ τ = τ1 ∧ ρ = ρ1 := by cases hst; exact ⟨rfl, rfl, rfl⟩
      refine lv_tableOut (tgt := 1704) E.1 E.2.1 dL_law_40 (Or.inr (by rw [nI_toInt (by omega)]; omega)) (by decide) ?_
      exact kk cells slots H locs ls (by omega) (by omega) hW hl
