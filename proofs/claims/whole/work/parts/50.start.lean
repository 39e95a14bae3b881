/-! WHAT HOLDS AT THE LAW'S START -/
def NV : List Cond := flatC (Jvm.Cond.and given_1 narrow_1)
def sT (i : Nat) : Term := .string (strAt i).1 (strAt i).2.1
def sV (i : Nat) : Term := .field (sT i) "java/lang/String" "value" "[B"
theorem sx_ex : ∀ i, i < 17 → Cond.exactly (sT i) "java/lang/String" ∈ NV := by decide +kernel
theorem sx_co : ∀ i, i < 10 → Cond.eq (.field (sT i) "java/lang/String" "coder" "B") (.int 0) ∈ NV := by decide +kernel
theorem sx_ar : ∀ i, i < 10 → Cond.arrayOf (sV i) .byte ∈ NV := by decide +kernel
theorem sx_le : ∀ i, i < 10 → Cond.eq (.length (sV i)) (.int (Int32.ofNat (strB i).length)) ∈ NV := by decide +kernel
theorem sx_el : ∀ i, i < 10 → ∀ j, j < (strB i).length → Cond.eq (.elem (sV i) (.int (Int32.ofNat j))) (.int ((strB i).getD j 0)) ∈ NV := by decide +kernel
def tT (i : Nat) : Term := .static "TaylorModels" (stN i) "[I"
theorem st_ar : ∀ i, i < 4 → Cond.arrayOf (tT i) .int ∈ NV := by decide +kernel
theorem st_le : ∀ i, i < 4 → Cond.eq (.length (tT i)) (.int (Int32.ofNat (stL i).length)) ∈ NV := by decide +kernel
theorem st_el : ∀ i, i < 4 → ∀ j, j < (stL i).length → Cond.eq (.elem (tT i) (.int (Int32.ofNat j))) (.int ((stL i).getD j 0)) ∈ NV := by decide +kernel
theorem st_nc : ∀ i, i < 5 → ∀ j, j < 5 → (¬ (1 ≤ i ∧ 1 ≤ j ∧ i ≠ j) ∨ Cond.not (.castable (exN i) (exN j)) ∈ NV) := by decide +kernel
theorem sx_sr : ∀ i, i < 17 → Cond.stringRef (strAt i).1 (strAt i).2.1 (strAt i).2.2 ∈ lw_tbl := by decide +kernel
theorem st_lay : ∀ i, i < 4 → Cond.laysStatic "TaylorModels" (stN i) "[I" ∈ lw_tbl := by decide +kernel
theorem sx_len : ∀ i, i < 10 → (strB i).length < 2 ^ 31 := by decide +kernel
theorem st_len : ∀ i, i < 4 → (stL i).length < 2 ^ 31 := by decide +kernel
theorem n_us : Cond.isRef (.static Bundle.tN "UNASSIGNED_STACK" Bundle.steD) ∈ NV := by decide +kernel
theorem n_su : Cond.isRef (.static Bundle.tN "SUPPRESSED_SENTINEL" Bundle.listD) ∈ NV := by decide +kernel
theorem n_cs : Cond.eq (.static "java/lang/String" "COMPACT_STRINGS" "Z") (.int 1) ∈ NV := by decide +kernel
theorem n_si : Cond.isRef (.static "jdk/internal/util/Preconditions" "SIOOBE_FORMATTER" "Ljava/util/function/BiFunction;") ∈ NV := by decide +kernel
section START
variable {s : State} {b : Nat} {A0 : Nat → Prop}
theorem s_TB (hts : ∀ w ∈ lw_tbl, w.before #[Value.ref b] s = true) : TB s := by
  intro w hw a
  have hm := List.mem_filter.mp hw
  have hk := hm.2
  simp only [fw_ok, Bool.and_eq_true] at hk
  have h2 := hts w hm.1
  rwa [← State.setVm_self s, Cond.onTables_vm (A' := a) (U' := s) s.vm w hk.1, State.setVm_self] at h2
theorem s_AC {ty : FieldType} (h : (Cond.arrayClass ty).before #[Value.ref b] s = true) : ∀ a : Array Value, (Cond.arrayClass ty).before a s = true := fun a => h
theorem s_AOs (hts : ∀ w ∈ lw_tbl, w.before #[Value.ref b] s = true) : AOs s :=
  ⟨fun a => hts (.arrayOver (.object "TaylorModels$Model")) (by decide +kernel), fun a => hts (.arrayOver (.object "TaylorModels$Models")) (by decide +kernel), fun a => hts (.arrayOver (.array .int)) (by decide +kernel), fun a => hts (.arrayOver (.array .long)) (by decide +kernel)⟩
theorem s_K (hts : ∀ w ∈ lw_tbl, w.before #[Value.ref b] s = true) (hTB : TB s) : ∃ (D : va_G) (cy : Nat → ClassId), va_K D vwCl (tyG cy) s := by
  have hw : ∀ w ∈ FW, w.before #[Value.ref b] s = true := fun w h => hTB w h _
  obtain ⟨c0, i0, k0⟩ := u_known (C := RX0) (T := TX0) (N := 8) (n := 8) hw in_X0 (hts (.instantiable RX0 8) (by decide +kernel))
  obtain ⟨c1, i1, k1⟩ := u_known (C := RX1) (T := TX1) (N := 3) (n := 3) hw in_X1 (hts (.instantiable RX1 3) (by decide +kernel))
  obtain ⟨c2, i2, k2⟩ := u_known (C := RX2) (T := TX2) (N := 3) (n := 3) hw in_X2 (hts (.instantiable RX2 3) (by decide +kernel))
  obtain ⟨c3, i3, k3⟩ := u_known (C := RX3) (T := TX3) (N := 2) (n := 2) hw in_X3 (hts (.instantiable RX3 2) (by decide +kernel))
  obtain ⟨c4, i4, k4⟩ := u_known (C := RX4) (T := TX4) (N := 8) (n := 8) hw in_X4 (hts (.instantiable RX4 8) (by decide +kernel))
  obtain ⟨c5, i5, k5⟩ := u_known (C := RX5) (T := TX5) (N := 9) (n := 9) hw in_X5 (hts (.instantiable RX5 9) (by decide +kernel))
  obtain ⟨c6, i6, k6⟩ := u_known (C := RX6) (T := TX6) (N := 6) (n := 6) hw in_X6 (hts (.instantiable RX6 6) (by decide +kernel))
  obtain ⟨c7, i7, k7⟩ := u_known (C := RX7) (T := TX7) (N := 30) (n := 30) hw in_X7 (hts (.instantiable RX7 30) (by decide +kernel))
  obtain ⟨a1, q1, p1, f1, g1, e1⟩ := Cond.arrayClass_spec (hts (.arrayClass .int) (by decide +kernel))
  obtain ⟨a2, q2, p2, f2, g2, e2⟩ := Cond.arrayClass_spec (hts (.arrayClass .long) (by decide +kernel))
  obtain ⟨p3, a3, q3, m3, -, g3, e3, f3⟩ := Cond.arrayOver_spec (hts (.arrayOver (.object "TaylorModels$Model")) (by decide +kernel))
  obtain ⟨p4, a4, q4, m4, -, g4, e4, f4⟩ := Cond.arrayOver_spec (hts (.arrayOver (.object "TaylorModels$Models")) (by decide +kernel))
  obtain ⟨p5, a5, q5, m5, g5, e5, f5⟩ := Cond.arrayOver_specA (hts (.arrayOver (.array .int)) (by decide +kernel))
  obtain ⟨p6, a6, q6, m6, g6, e6, f6⟩ := Cond.arrayOver_specA (hts (.arrayOver (.array .long)) (by decide +kernel))
  refine ⟨(fun k => [c0, c1, c2, c3, c4, c5, c6, c7].getD k c0, fun k => [i0, i1, i2, i3, i4, i5, i6, i7].getD k i0), fun k => [a1, a1, a2, a3, a4, a5, a6].getD k a1, fun k q hq => ?_, fun k q hq => ?_⟩
  · match k, hq with
    | 0, hq => cases hq; exact k0
    | 1, hq => cases hq; exact k1
    | 2, hq => cases hq; exact k2
    | 3, hq => cases hq; exact k3
    | 4, hq => cases hq; exact k4
    | 5, hq => cases hq; exact k5
    | 6, hq => cases hq; exact k6
    | 7, hq => cases hq; exact k7
    | k + 8, hq => simp [vwCl] at hq
  · match k, hq with
    | 0, hq => cases hq; exact ⟨fun n z => ⟨fun k h => (by cases h), q1, g1, p1, e1⟩, f1⟩
    | 1, hq => cases hq; exact ⟨fun n z => ⟨fun k h => (by cases h), q2, g2, p2, e2⟩, f2⟩
    | 2, hq => cases hq; exact ⟨fun n z => ⟨fun k h => (by cases h), q3, g3, p3, e3⟩, q3, p3, g3, e3, m3, f3⟩
    | 3, hq => cases hq; exact ⟨fun n z => ⟨fun k h => (by cases h), q4, g4, p4, e4⟩, q4, p4, g4, e4, m4, f4⟩
    | 4, hq => cases hq; exact ⟨fun n z => ⟨fun k h => (by cases h), q5, g5, p5, e5⟩, f5⟩
    | 5, hq => cases hq; exact ⟨fun n z => ⟨fun k h => (by cases h), q6, g6, p6, e6⟩, f6⟩
    | k + 6, hq => simp [tyG] at hq
theorem s_lit (hts : ∀ w ∈ lw_tbl, w.before #[Value.ref b] s = true) (hnv : ∀ w ∈ NV, w.before #[Value.ref b] s = true) (hA : ∀ a : Nat, a < s.heap.size → ¬ A0 a) : ∃ sr : Nat → Nat, (∀ i, i < 17 → vk_R (strAt i).1 (strAt i).2.1 (strAt i).2.2 (sr i) s) ∧ ∀ i, i < 10 → FxS sr A0 s s.heap i := by
  have h0 : ∀ i : Nat, ∃ q : Nat × Nat, i < 17 → vk_R (strAt i).1 (strAt i).2.1 (strAt i).2.2 q.1 s ∧ (i < 10 → va_O "java/lang/String" q.1 A0 s s.heap ∧ va_OF "java/lang/String" "coder" "B" (.int 0) q.1 A0 s s.heap ∧ va_OF "java/lang/String" "value" "[B" (.ref q.2) q.1 A0 s s.heap ∧ va_T .byte q.2 (strB i).length (fun j => .int ((strB i).getD j 0)) A0 s s.heap) := by
    intro i
    by_cases hi : i < 17
    · obtain ⟨a, c, cA, kA, q1, q2, q3, q4, q5, q6, -⟩ := Cond.exactly_spec (args := #[Value.ref b]) (first := s) (o := none) (s := s) (idx := []) (t := sT i) (cls := "java/lang/String") (hnv _ (sx_ex i hi))
      by_cases hi' : i < 10
      · obtain ⟨t, ht, hT⟩ := va_Tof (f := fun j => .int ((strB i).getD j 0)) (A := A0) (sx_len i hi') (hnv _ (sx_ar i hi')) (va_eqt (hnv _ (sx_le i hi'))) (fun j hj => va_eqt (hnv _ (sx_el i hi' j hj))) hA
        exact ⟨(a, t), fun _ => ⟨vk_R.of (hts _ (sx_sr i hi)) q1, fun _ => ⟨⟨cA, q3, q5, by rw [q6]; exact q2, hA a (Array.getElem?_eq_some_iff.mp q3).1⟩, vk_OFof q1 (va_eqt (hnv _ (sx_co i hi'))) hA, vk_OFof q1 ht hA, hT⟩⟩⟩
      · exact ⟨(a, 0), fun _ => ⟨vk_R.of (hts _ (sx_sr i hi)) q1, fun z => absurd z hi'⟩⟩
    · exact ⟨(0, 0), fun z => absurd z hi⟩
  obtain ⟨f, hf⟩ := Classical.axiomOfChoice h0
  refine ⟨fun n => if n < 100 then (f n).1 else (f (n - 100)).2, fun i hi => ?_, fun i hi => ?_⟩
  · have h := (hf i hi).1
    simp only [if_pos (show i < 100 by omega)]
    exact h
  · obtain ⟨h1, h2, h3, h4⟩ := (hf i (by omega)).2 hi
    unfold FxS
    simp only [if_pos (show i < 100 by omega), if_neg (show ¬ 100 + i < 100 by omega), show 100 + i - 100 = i by omega]
    exact ⟨h1, h2, h3, h4⟩
theorem s_Zr {C n d : String} {A : Nat → Prop} (hl : (Cond.laysStatic C n d).before #[Value.ref b] s = true) (hini : (Cond.initialized C).before #[Value.ref b] s = true) (h : (Cond.isRef (.static C n d)).before #[Value.ref b] s = true) (hA : ∀ a : Nat, a < s.heap.size → ¬ A a) : ∃ v : Option Nat, va_Z C n d (va_rf v) A s s.heap := by
  cases hv : (Term.static C n d).eval #[Value.ref b] s none [] s with
  | none => simp [Cond.before, Cond.holds, Cond.value, hv] at h
  | some v =>
    cases v with
    | null => exact ⟨none, va_Zof hl hini hv hA⟩
    | ref a => exact ⟨some a, va_Zof hl hini hv hA⟩
    | _ => simp [Cond.before, Cond.holds, Cond.value, hv, Value.isRef] at h
theorem s_Fx (hts : ∀ w ∈ lw_tbl, w.before #[Value.ref b] s = true) (hnv : ∀ w ∈ NV, w.before #[Value.ref b] s = true) (hA : ∀ a : Nat, a < s.heap.size → ¬ A0 a) (b0 : Nat) : ∃ G : GP, G.2.2.2 = b0 ∧ Fx G A0 s s.heap := by
  have hTB := s_TB hts
  obtain ⟨D, cy, hK⟩ := s_K hts hTB
  obtain ⟨sr, h1, h2⟩ := s_lit hts hnv hA
  refine ⟨(D, cy, sr, b0), rfl, hTB, hK, ⟨s_AC (hts (.arrayClass .int) (by decide +kernel)), s_AC (hts (.arrayClass .long) (by decide +kernel)), s_AC (hts (.arrayClass .byte) (by decide +kernel))⟩, h1, h2, fun i hi => ?_, ?_, ?_, ?_, ?_⟩
  · obtain ⟨t, ht, hT⟩ := va_Tof (f := fun j => .int ((stL i).getD j 0)) (A := A0) (st_len i hi) (hnv _ (st_ar i hi)) (va_eqt (hnv _ (st_le i hi))) (fun j hj => va_eqt (hnv _ (st_el i hi j hj))) hA
    exact ⟨t, va_Zof (hts _ (st_lay i hi)) (hts (.initialized "TaylorModels") (by decide +kernel)) ht hA, hT⟩
  · exact vx_Zqof (hts (.laysStatic Bundle.tN "UNASSIGNED_STACK" Bundle.steD) (by decide +kernel)) (hts (.initialized Bundle.tN) (by decide +kernel)) (hnv _ n_us) hA
  · exact vx_Zqof (hts (.laysStatic Bundle.tN "SUPPRESSED_SENTINEL" Bundle.listD) (by decide +kernel)) (hts (.initialized Bundle.tN) (by decide +kernel)) (hnv _ n_su) hA
  · exact va_Zof (hts (.laysStatic "java/lang/String" "COMPACT_STRINGS" "Z") (by decide +kernel)) (hts (.initialized "java/lang/String") (by decide +kernel)) (va_eqt (hnv _ n_cs)) hA
  · exact s_Zr (hts (.laysStatic "jdk/internal/util/Preconditions" "SIOOBE_FORMATTER" "Ljava/util/function/BiFunction;") (by decide +kernel)) (hts (.initialized "jdk/internal/util/Preconditions") (by decide +kernel)) (hnv _ n_si) hA
theorem s_Nc4 (hnv : ∀ w ∈ NV, w.before #[Value.ref b] s = true) : Nc4 s := fun i j a1 a2 a3 a4 a5 => va_Nc.of (hnv _ ((st_nc i (by omega) j (by omega)).resolve_left (fun z => z ⟨a1, a3, a5⟩)))
end START
