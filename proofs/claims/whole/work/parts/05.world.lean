/-! THE WORLD OF A METHOD: the tables' words, the fixed things (statics, literals), the store -/
/-- the words that stay under warmer tables -/
def fw_ok (w : Cond) : Bool := w.onTables && (w.keepsFace || w.keepsH)
def FW : List Cond := lw_tbl.filter fw_ok
theorem fw_in {w : Cond} (h : w ∈ lw_tbl) (k : fw_ok w = true) : w ∈ FW := List.mem_filter.mpr ⟨h, k⟩
theorem fw_ix {w : Cond} (i : Nat) (h : lw_tbl[i]? = some w) (k : fw_ok w = true) : w ∈ FW := fw_in (List.mem_of_getElem? h) k
def TB (U : State) : Prop := ∀ w ∈ FW, ∀ a : Array Value, w.before a U = true
theorem TB.warm {s U : State} (hW : s.WarmedH U.vm) (h : TB s) : TB U := by
  intro w hw a
  have hk := (List.mem_filter.mp hw).2
  simp only [fw_ok, Bool.and_eq_true, Bool.or_eq_true] at hk
  obtain ⟨hc, hk⟩ := hk
  have h1 := h w hw a
  rcases hk with hk | hk
  · have h2 := Cond.before_shiftedFace (State.Shifted.of_warmed hW) w hk h1
    rwa [Cond.onTables_vm (A' := a) (U' := U) U.vm w hc, State.setVm_self] at h2
  · have h2 := Cond.onTables_warmH (T := U) (args' := a) hW hc hk h1
    rwa [State.setVm_self] at h2
/-- literals: the class that loads it, its place there, its text -/
def strL : List (String × Nat × String) := [("TaylorModels$SetupReader", 56, "models"), ("TaylorModels$SetupReader", 130, "x"), ("TaylorModels$SetupReader", 132, "y"), ("TaylorModels$SetupReader", 137, "intx"), ("TaylorModels$SetupReader", 139, "inty"), ("TaylorModelsModel", 291, "models"), ("TaylorModelsModel", 255, "x"), ("TaylorModelsModel", 261, "y"), ("TaylorModelsModel", 263, "intx"), ("TaylorModelsModel", 268, "inty"), ("TaylorModels", 63, "length is not within the buffer"), ("TaylorModels", 234, "there is no such model"), ("TaylorModels", 239, "the model is not defined"), ("TaylorModels", 245, "there is no such coefficient"), ("TaylorModels", 247, "neither 0 nor 1"), ("TaylorModels", 249, "a number is out of its range"), ("TaylorModels", 253, "something is too large, or the composition is not possible")]
def strAt (i : Nat) : String × Nat × String := strL.getD i ("", 0, "")
def strB (i : Nat) : List Int32 := ([[109, 111, 100, 101, 108, 115], [120], [121], [105, 110, 116, 120], [105, 110, 116, 121], [109, 111, 100, 101, 108, 115], [120], [121], [105, 110, 116, 120], [105, 110, 116, 121]] : List (List Int32)).getD i []
/-- the static tables of the class -/
def stN (i : Nat) : String := ["X_POWER", "Y_POWER", "FIRST_SLOT_OF_X_POWER", "LOWEST"].getD i ""
def stL (i : Nat) : List Int32 := ([[0, 0, 0, 0, 1, 1, 1, 2, 2, 3], [0, 1, 2, 3, 0, 1, 2, 0, 1, 0], [0, 4, 7, 9], [1, -1, 0, -1, -1, -1, -1, 0, -1, -1]] : List (List Int32)).getD i []
abbrev GP : Type := va_G × (Nat → ClassId) × (Nat → Nat) × Nat
def tyG (cy : Nat → ClassId) : List (ClassId × FieldType) := [(cy 1, .int), (cy 2, .long), (cy 3, .object "TaylorModels$Model"), (cy 4, .object "TaylorModels$Models"), (cy 5, .array .int), (cy 6, .array .long)]
def FxS (sr : Nat → Nat) (A : Nat → Prop) (U : State) (H : Heap) (i : Nat) : Prop := va_O "java/lang/String" (sr i) A U H ∧ va_OF "java/lang/String" "coder" "B" (.int 0) (sr i) A U H ∧ va_OF "java/lang/String" "value" "[B" (.ref (sr (100 + i))) (sr i) A U H ∧ va_T .byte (sr (100 + i)) (strB i).length (fun j => .int ((strB i).getD j 0)) A U H
def FxT (A : Nat → Prop) (U : State) (H : Heap) (i : Nat) : Prop := ∃ t : Nat, va_Z "TaylorModels" (stN i) "[I" (.ref t) A U H ∧ va_T .int t (stL i).length (fun j => .int ((stL i).getD j 0)) A U H
def Fx (G : GP) (A : Nat → Prop) (U : State) (H : Heap) : Prop :=
  TB U ∧ va_K G.1 vwCl (tyG G.2.1) U ∧ ((∀ a : Array Value, (Cond.arrayClass .int).before a U = true) ∧ (∀ a : Array Value, (Cond.arrayClass .long).before a U = true) ∧ (∀ a : Array Value, (Cond.arrayClass .byte).before a U = true)) ∧
  (∀ i, i < 17 → vk_R (strAt i).1 (strAt i).2.1 (strAt i).2.2 (G.2.2.1 i) U) ∧ (∀ i, i < 10 → FxS G.2.2.1 A U H i) ∧ (∀ i, i < 4 → FxT A U H i) ∧ vx_Zq Bundle.tN "UNASSIGNED_STACK" Bundle.steD A U H ∧ vx_Zq Bundle.tN "SUPPRESSED_SENTINEL" Bundle.listD A U H ∧ va_Z "java/lang/String" "COMPACT_STRINGS" "Z" (.int 1) A U H ∧ (∃ v : Option Nat, va_Z "jdk/internal/util/Preconditions" "SIOOBE_FORMATTER" "Ljava/util/function/BiFunction;" (va_rf v) A U H)
theorem ac_any {ty : FieldType} {s U : State} (hW : s.WarmedH U.vm) (h : ∀ a : Array Value, (Cond.arrayClass ty).before a s = true) : ∀ a : Array Value, (Cond.arrayClass ty).before a U = true := fun a => word_at hW (Or.inr ⟨ty, rfl⟩) (h a)
theorem Fx.go {G : GP} {A B : Nat → Prop} {s U : State} {H0 H : Heap} (hW : s.WarmedH U.vm) (hk : ∀ a : Nat, a < H0.size → ¬ A a → H[a]? = H0[a]?) (hAB : ∀ q, B q → A q) (h : Fx G A s H0) : Fx G B U H := by
  obtain ⟨h1, h2, ⟨h3, h4, h5⟩, h6, h7, h8, h9, h10, h11, v, h12⟩ := h
  have hv := hW.alike
  refine ⟨h1.warm hW, va_K.moved hv h2, ⟨ac_any hW h3, ac_any hW h4, ac_any hW h5⟩, fun i hi => vk_R.warm hW (h6 i hi), fun i hi => ?_, fun i hi => ?_, ((h9.moved hv).kept hk).narrow hAB, ((h10.moved hv).kept hk).narrow hAB, ((h11.moved hv).kept hk).narrow hAB, v, ((h12.moved hv).kept hk).narrow hAB⟩
  · obtain ⟨a1, a2, a3, a4⟩ := h7 i hi
    exact ⟨((a1.moved hv).kept hk).narrow hAB, ((va_OF.moved hv a2).kept hk).narrow hAB, ((va_OF.moved hv a3).kept hk).narrow hAB, ((a4.moved hv).kept hk).narrow hAB⟩
  · obtain ⟨t, a1, a2⟩ := h8 i hi
    exact ⟨t, ((a1.moved hv).kept hk).narrow hAB, ((a2.moved hv).kept hk).narrow hAB⟩
/-- which cells a method may change: the store's, and those that it makes -/
def Aw (b N sz : Nat) : Nat → Prop := fun q => (b ≤ q ∧ q < b + N) ∨ sz ≤ q
def SkOK (sk : Sk) : Prop := ∀ q, sk.1 ≤ q → (sk.2.1 q).1 = 9
theorem SkOK.lt {sk : Sk} (h : SkOK sk) {q t n : Nat} (hk : sk.2.1 q = (t, n)) (ht : t ≠ 9) : q < sk.1 := by
  rcases Nat.lt_or_ge q sk.1 with h1 | h1
  · exact h1
  · have := h q h1
    rw [hk] at this
    exact absurd this ht
/-- what holds at a method's start, but its code -/
def En (p : Program) (m : MethodId) (c : Code) (s : State) (cc : ByteArray) (nL : Nat) (own : String) (G : GP) (A0 : Nat → Prop) : Prop :=
  p.tables.exec = Jvm.exec ∧ c.code = cc ∧ c.maxLocals = nL ∧ s.vm.findClass own = some m.cls ∧ Fx G A0 s s.heap
def Wo (G : GP) (sk : Sk) (A0 : Nat → Prop) (s : State) (σ : St) (H : Heap) (locs : List Loc) : Prop :=
  va_P G.1 vwCl (cel G.2.1 sk G.2.2.2 yes sk.1 σ) H ∧ va_S A0 s.heap H locs ∧ (∀ q, q < sk.1 → A0 (G.2.2.2 + q)) ∧ SkOK sk ∧ ∀ q, s.heap.size ≤ q → A0 q
def PreC (G : GP) (sk : Sk) (sz : Nat) (σ : St) (U : State) : Prop := U.heap.size = sz ∧ va_P G.1 vwCl (cel G.2.1 sk G.2.2.2 yes sk.1 σ) U.heap ∧ Fx G (Aw G.2.2.2 sk.1 sz) U U.heap
def PoC (G : GP) (sk : Sk) (σ : St) (U : State) : Prop := va_P G.1 vwCl (cel G.2.1 sk G.2.2.2 yes sk.1 σ) U.heap
def QO (P : State → Prop) (A : Nat → Prop) (rv : Option Value) : Array Value → State → Outcome → State → Prop := fun _ st oc t => (oc = .returned rv ∧ P t) ∧ va_F A st t
def QX (P : State → Prop) (A : Nat → Prop) (rv : Nat ⊕ Option Value) : Array Value → State → Outcome → State → Prop := fun _ st oc t => ((∃ v, rv = .inr v ∧ oc = .returned v) ∧ P t) ∧ va_F A st t
def exN (e : Nat) : String := ["", "java/lang/IndexOutOfBoundsException", "java/util/NoSuchElementException", "java/lang/IllegalArgumentException", "java/lang/IllegalStateException"].getD e ""
def XX (P : State → Prop) (A : Nat → Prop) (rv : Nat ⊕ Option Value) : String → State → State → Prop := fun E st t => ((∃ e, rv = .inl e ∧ E = exN e) ∧ P t) ∧ va_F A st t
theorem PreC.blind {G : GP} {sk : Sk} {sz : Nat} {σ : St} {as : List Value} : FrameBlind (va_Pc as (PreC G sk sz σ)) := by
  rintro a U g mk ⟨h0, h1, h2, h3⟩
  exact ⟨h0, h1, h2, Fx.go (State.WarmedH.refl U) (fun _ _ _ => rfl) (fun _ h => h) h3⟩
theorem PreC.of {G : GP} {sk : Sk} {A0 : Nat → Prop} {s : State} {σ : St} {H : Heap} {locs : List Loc} (hF : Fx G A0 s s.heap) (hW : Wo G sk A0 s σ H locs) {U : State} (hU : U.heap = H) (hV : s.WarmedH U.vm) : PreC G sk H.size σ U := by
  obtain ⟨hP, hS, hA, -, hN⟩ := hW
  refine ⟨by rw [hU], by rw [hU]; exact hP, ?_⟩
  rw [hU]
  refine Fx.go hV (fun a h1 h2 => hS.2.1 a h1 h2) (fun q h => ?_) hF
  rcases h with ⟨h1, h2⟩ | h
  · have := hA (q - G.2.2.2) (by omega)
    rwa [Nat.add_sub_cancel' h1] at this
  · exact hN q (Nat.le_trans hS.1 h)
theorem Wo.aw {G : GP} {sk : Sk} {A0 : Nat → Prop} {s : State} {σ : St} {H : Heap} {locs : List Loc} (hW : Wo G sk A0 s σ H locs) : ∀ q, Aw G.2.2.2 sk.1 H.size q → A0 q := by
  obtain ⟨-, hS, hA, -, hN⟩ := hW
  rintro q (⟨h1, h2⟩ | h)
  · have := hA (q - G.2.2.2) (by omega)
    rwa [Nat.add_sub_cancel' h1] at this
  · exact hN q (Nat.le_trans hS.1 h)
