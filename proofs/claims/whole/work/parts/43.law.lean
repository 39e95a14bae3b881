/-! THE LAW'S WORLD: the class's places, the reference's, the law's own row of one long, one behind another -/
def kA (q : Nat) : Nat × Nat := if q < 258 then kC q else if q < 311 then kR (q - 258) else if q = 311 then (2, 1) else (9, 0)
def rA (q k : Nat) : Nat := if q < 258 then rC q k else 258 + rR (q - 258) k
def skA : Sk := (312, kA, rA)
theorem skA_ok : SkOK skA := by
  intro q hq
  have hq : 312 ≤ q := hq
  show (kA q).1 = 9
  unfold kA
  rw [if_neg (by omega), if_neg (by omega), if_neg (by omega)]
def jn (σ τ ρ : St) : St := (fun q k => if q < 258 then σ.1 q k else if q < 311 then τ.1 (q - 258) k else ρ.1 (q - 311) k, fun q k => if q < 258 then σ.2 q k else if q < 311 then τ.2 (q - 258) k else ρ.2 (q - 311) k)
theorem jn_out {σ τ ρ : St} {v : Int64} : sJ (jn σ τ ρ) 311 0 v = jn σ τ (sJ ρ 0 0 v) := by
  unfold sJ jn
  refine Prod.ext rfl (funext fun q => funext fun k => ?_)
  by_cases h1 : q < 258
  · have h3 : ¬ q = 311 := by omega
    simp [h1, h3]
  · by_cases h2 : q < 311
    · have h3 : ¬ q = 311 := by omega
      simp [h1, h2, h3]
    · by_cases h3 : q = 311
      · subst h3; simp
      · have h4 : ¬ q - 311 = 0 := by omega
        simp [h1, h2, h3, h4]
def gR (G : GP) : GP := (G.1, G.2.1, G.2.2.1, G.2.2.2 + 258)
theorem cE_A {cy : Nat → ClassId} {b : Nat} {σ τ ρ : St} {q : Nat} (hq : q < 258) : cE cy skA b yes (jn σ τ ρ) q = cE cy skC b yes σ q := by
  have h1 : skA.2.1 q = skC.2.1 q := by show kA q = kC q; unfold kA; rw [if_pos hq]
  have h2 : ∀ k, skA.2.2 q k = skC.2.2 q k := fun k => by show rA q k = rC q k; unfold rA; rw [if_pos hq]
  have e1 : (jn σ τ ρ).1 q = σ.1 q := by funext k; simp [jn, hq]
  have e2 : (jn σ τ ρ).2 q = σ.2 q := by funext k; simp [jn, hq]
  have e3 : rE skA b yes q = rE skC b yes q := by funext j; simp only [rE, h2]
  have e4 : ∀ ci, fV skA b yes (jn σ τ ρ) q ci = fV skC b yes σ q ci := by intro ci; funext k; simp only [fV, h2, e1, e2]
  unfold cE
  rw [h1, e1, e2, e3, e4]
theorem cE_B {cy : Nat → ClassId} {b : Nat} {σ τ ρ : St} {q : Nat} (hq : q < 53) : cE cy skA b yes (jn σ τ ρ) (258 + q) = cE cy skR (b + 258) yes τ q := by
  have a1 : ¬ 258 + q < 258 := by omega
  have a2 : 258 + q < 311 := by omega
  have a3 : 258 + q - 258 = q := by omega
  have h1 : skA.2.1 (258 + q) = skR.2.1 q := by show kA (258 + q) = kR q; unfold kA; rw [if_neg a1, if_pos a2, a3]
  have h2 : ∀ k, b + skA.2.2 (258 + q) k = b + 258 + skR.2.2 q k := fun k => by show b + rA (258 + q) k = b + 258 + rR q k; unfold rA; rw [if_neg a1, a3]; omega
  have e1 : (jn σ τ ρ).1 (258 + q) = τ.1 q := by funext k; show (if 258 + q < 258 then σ.1 (258 + q) k else if 258 + q < 311 then τ.1 (258 + q - 258) k else ρ.1 (258 + q - 311) k) = _; rw [if_neg a1, if_pos a2, a3]
  have e2 : (jn σ τ ρ).2 (258 + q) = τ.2 q := by funext k; show (if 258 + q < 258 then σ.2 (258 + q) k else if 258 + q < 311 then τ.2 (258 + q - 258) k else ρ.2 (258 + q - 311) k) = _; rw [if_neg a1, if_pos a2, a3]
  have e3 : rE skA b yes (258 + q) = rE skR (b + 258) yes q := by funext j; simp only [rE, h2]
  have e4 : ∀ ci, fV skA b yes (jn σ τ ρ) (258 + q) ci = fV skR (b + 258) yes τ q ci := by intro ci; funext k; simp only [fV, h2, e1, e2]
  unfold cE
  rw [h1, e1, e2, e3, e4]
theorem cE_O {cy : Nat → ClassId} {b : Nat} {σ τ ρ : St} : cE cy skA b yes (jn σ τ ρ) 311 = .inl (cy 2, 1, .inr (.inl (ρ.2 0))) := by
  rw [cE_long (show skA.2.1 311 = (2, 1) from rfl)]
  rfl
section PARTS
variable {D : va_G} {cy : Nat → ClassId} {b : Nat} {σ τ ρ σ1 τ1 ρ1 : St} {H H1 : Heap}
theorem A_C (h : va_P D vwCl (cel cy skA b yes 312 (jn σ τ ρ)) H) : va_P D vwCl (cel cy skC b yes 258 σ) H := by
  intro k q hq
  obtain ⟨hk, rfl⟩ := cel_at hq
  have h1 := h k _ (cel_get (by omega))
  rw [cE_A hk] at h1
  exact h1
theorem A_R (h : va_P D vwCl (cel cy skA b yes 312 (jn σ τ ρ)) H) : va_P D vwCl (cel cy skR (b + 258) yes 53 τ) H := by
  intro k q hq
  obtain ⟨hk, rfl⟩ := cel_at hq
  have h1 := h (258 + k) _ (cel_get (by omega))
  rw [cE_B hk, ← Nat.add_assoc] at h1
  exact h1
theorem A_of (hC : va_P D vwCl (cel cy skC b yes 258 σ) H) (hR : va_P D vwCl (cel cy skR (b + 258) yes 53 τ) H) (hO : va_at D vwCl (b + 311, .inl (cy 2, 1, .inr (.inl (ρ.2 0)))) H) : va_P D vwCl (cel cy skA b yes 312 (jn σ τ ρ)) H := by
  intro k q hq
  obtain ⟨hk, rfl⟩ := cel_at hq
  rcases Nat.lt_or_ge k 258 with h1 | h1
  · rw [cE_A h1]
    exact hC k _ (cel_get h1)
  · rcases Nat.lt_or_ge k 311 with h2 | h2
    · obtain ⟨j, hj, rfl⟩ : ∃ j, j < 53 ∧ k = 258 + j := ⟨k - 258, by omega, by omega⟩
      rw [cE_B hj]
      have h := hR j _ (cel_get hj)
      rw [Nat.add_assoc] at h
      exact h
    · have h3 : k = 311 := by omega
      subst h3
      rw [cE_O]
      exact hO
theorem A_O (h : va_P D vwCl (cel cy skA b yes 312 (jn σ τ ρ)) H) : va_at D vwCl (b + 311, .inl (cy 2, 1, .inr (.inl (ρ.2 0)))) H := by
  have h1 := h 311 _ (cel_get (by omega))
  rw [cE_O] at h1
  exact h1
/-- behind a call of the class -/
theorem A_toC (h : va_P D vwCl (cel cy skA b yes 312 (jn σ τ ρ)) H) (hC : va_P D vwCl (cel cy skC b yes 258 σ1) H1) (hk : ∀ q, q < H.size → ¬ Aw b 258 H.size q → H1[q]? = H[q]?) : va_P D vwCl (cel cy skA b yes 312 (jn σ1 τ ρ)) H1 := by
  have hR := A_R h
  have hO := A_O h
  refine A_of hC (hR.kept (fun k q hq => ?_)) (hO.kept (hk _ hO.lt (fun z => ?_)))
  · have hl := (hR k q hq).lt
    obtain ⟨hk1, rfl⟩ := cel_at hq
    refine hk _ hl (fun z => ?_)
    rcases z with ⟨z1, z2⟩ | z
    · dsimp only at z2; omega
    · dsimp only at z hl; omega
  · have hl := hO.lt
    rcases z with ⟨z1, z2⟩ | z
    · dsimp only at z2; omega
    · dsimp only at z hl; omega
/-- behind a call of the reference -/
theorem A_toR (h : va_P D vwCl (cel cy skA b yes 312 (jn σ τ ρ)) H) (hR : va_P D vwCl (cel cy skR (b + 258) yes 53 τ1) H1) (hk : ∀ q, q < H.size → ¬ Aw (b + 258) 53 H.size q → H1[q]? = H[q]?) : va_P D vwCl (cel cy skA b yes 312 (jn σ τ1 ρ)) H1 := by
  have hC := A_C h
  have hO := A_O h
  refine A_of (hC.kept (fun k q hq => ?_)) hR (hO.kept (hk _ hO.lt (fun z => ?_)))
  · have hl := (hC k q hq).lt
    obtain ⟨hk1, rfl⟩ := cel_at hq
    refine hk _ hl (fun z => ?_)
    rcases z with ⟨z1, z2⟩ | z
    · dsimp only at z1; omega
    · dsimp only at z hl; omega
  · have hl := hO.lt
    rcases z with ⟨z1, z2⟩ | z
    · dsimp only at z2; omega
    · dsimp only at z hl; omega
end PARTS
section LCALLS
variable {p : Program} {l : Launch} {e : Env} {R : Room} {s : State} {m : MethodId} {args : Array Value} {below : List Frame} {meth : Method} {c : Code} {H : Heap} {locs : List Loc} {cells slots : Nat} {Q : State → Prop}
variable {cc : ByteArray} {nL : Nat} {own : String} {G : GP} {A0 : Nat → Prop} {σ τ ρ σ1 τ1 ρ1 : St} {pc mc ms : Nat} {ls : Array Slot} {rest st0 As : List Value}
variable {q ci idx maxL k9 : Nat} {T9 : u_T} {y : MethodName} {cc' : ByteArray} {ret : Option FieldType} {rm : Room} {host : String}
theorem c_runF {mc1 ms1 : Nat} {free : Addr → Prop} {P : State → Prop} {A1 : Nat → Prop} {rv : Option Value} {a : Array Value} {st0 : List Value} (hr : va_Run p l e R s m args below meth c H locs cells slots mc1 ms1 (F0 m pc ls st0) rest (QO P A1 rv a) free) (hS : va_S A0 s.heap H locs) (hA : ∀ q, A1 q → A0 q) (hf : ∀ q, free q → A0 q)
    (kk : ∀ (t : State) (H1 : Heap) (locs1 : List Loc), t.heap = H1 → P t → va_S A0 s.heap H1 locs1 → (∀ q, q < H.size → ¬ A1 q → H1[q]? = H[q]?) → W p l e R s m args below meth c H1 locs1 (cells + mc1) (slots + ms1) Q (F0 m (pc + 3) ls (rv.toList ++ rest))) : W p l e R s m args below meth c H locs cells slots Q (F0 m pc ls st0) := by
  intro T hT X
  obtain ⟨v, st₀, t, T', L, h0, X', hL, e1, e2, ⟨⟨hv, hp⟩, hz, hk⟩, st⟩ := hr T hT X
  cases hv
  rw [h0] at hz hk
  obtain ⟨t2, a1, b1⟩ := kk t T'.heap (locs ++ L) e1.symm hp
    ⟨Nat.le_trans hS.1 (by rw [e1]; exact hz), fun q h1 h2 => by rw [e1, hk q (Nat.lt_of_lt_of_le h1 hS.1) (fun z => h2 (hA q z))]; exact hS.2.1 q h1 h2, fun q hq => by
      rcases List.mem_append.mp hq with h | h
      · exact hS.2.2 q h
      · exact hf _ (hL q h)⟩ (fun q h1 h2 => by rw [e1]; exact hk q h1 h2) T' rfl X'
  exact ⟨t2, st t2 a1, b1⟩
theorem c_runXF {mc1 ms1 : Nat} {free : Addr → Prop} {P : State → Prop} {A1 : Nat → Prop} {rv : Nat ⊕ Option Value} {a : Array Value} {st0 : List Value} (hr : vx_Run p l e R s m args below meth c H locs cells slots mc1 ms1 (F0 m pc ls st0) rest (QX P A1 rv a) (XX P A1 rv) free) (hS : va_S A0 s.heap H locs) (hA : ∀ q, A1 q → A0 q) (hf : ∀ q, free q → A0 q)
    (kx : ∀ (ex : Nat) (ce : Cell) (q9 : Addr) (t : State) (H1 : Heap) (locs1 : List Loc), rv = .inl ex → t.heap = H1 → P t → va_S A0 s.heap H1 locs1 → (∀ q, q < H.size → ¬ A1 q → H1[q]? = H[q]?) → H1[q9]? = some ce → ce.vm = .none → s.vm.findClass (exN ex) = some ce.cls → vx_W p l e R s m args below meth c H1 locs1 (cells + mc1) (slots + ms1) Q (F0 m pc ls rest) q9)
    (kk : ∀ (v : Option Value) (t : State) (H1 : Heap) (locs1 : List Loc), rv = .inr v → t.heap = H1 → P t → va_S A0 s.heap H1 locs1 → (∀ q, q < H.size → ¬ A1 q → H1[q]? = H[q]?) → W p l e R s m args below meth c H1 locs1 (cells + mc1) (slots + ms1) Q (F0 m (pc + 3) ls (v.toList ++ rest))) : W p l e R s m args below meth c H locs cells slots Q (F0 m pc ls st0) := by
  have keep : ∀ {st₀ t T' : State} {L : List Loc}, st₀.heap = H → T'.heap = t.heap → (∀ q ∈ L, free q.base) → va_F A1 st₀ t → va_S A0 s.heap T'.heap (locs ++ L) ∧ ∀ q, q < H.size → ¬ A1 q → T'.heap[q]? = H[q]? := by
    intro st₀ t T' L h0 e1 hL hF
    obtain ⟨hz, hk⟩ := hF
    rw [h0] at hz hk
    exact ⟨⟨Nat.le_trans hS.1 (by rw [e1]; exact hz), fun q h1 h2 => by rw [e1, hk q (Nat.lt_of_lt_of_le h1 hS.1) (fun z => h2 (hA q z))]; exact hS.2.1 q h1 h2, fun q hq => by
      rcases List.mem_append.mp hq with h | h
      · exact hS.2.2 q h
      · exact hf _ (hL q h)⟩, fun q h1 h2 => by rw [e1]; exact hk q h1 h2⟩
  intro T hT X
  rcases hr T hT X with ⟨v, st₀, t, T', L, h0, X', hL, e1, e2, ⟨⟨⟨w, hw, hv⟩, hp⟩, hF⟩, st⟩ | ⟨q, st₀, t, T', L, E9, ce, h0, X', hL, e1, e2, ⟨⟨⟨ex, hw, hE⟩, hp⟩, hF⟩, hce, hcv, hcl, st⟩
  · cases hv
    obtain ⟨k1, k2⟩ := keep h0 e1 hL hF
    obtain ⟨t2, a1, b1⟩ := kk v t T'.heap (locs ++ L) hw e1.symm hp k1 k2 T' rfl X'
    exact ⟨t2, st t2 a1, b1⟩
  · obtain ⟨k1, k2⟩ := keep h0 e1 hL hF
    obtain ⟨t2, a1, b1⟩ := kx ex ce q t T'.heap (locs ++ L) hw e1.symm hp k1 k2 (by rw [e1]; exact hce) hcv (by rw [← hE]; exact hcl) T' rfl X'
    exact ⟨t2, st.trans a1, b1⟩
theorem awC (hW : Wo G skA A0 s (jn σ τ ρ) H locs) : ∀ q, Aw G.2.2.2 258 H.size q → A0 q := by
  intro q h
  refine hW.aw q ?_
  rcases h with ⟨h1, h2⟩ | h
  · exact Or.inl ⟨h1, by show q < G.2.2.2 + 312; omega⟩
  · exact Or.inr h
theorem awR (hW : Wo G skA A0 s (jn σ τ ρ) H locs) : ∀ q, Aw (gR G).2.2.2 53 H.size q → A0 q := by
  intro q h
  refine hW.aw q ?_
  rcases h with ⟨h1, h2⟩ | h
  · have h1 : G.2.2.2 + 258 ≤ q := h1
    have h2 : q < G.2.2.2 + 258 + 53 := h2
    exact Or.inl ⟨by omega, by show q < G.2.2.2 + 312; omega⟩
  · exact Or.inr h
theorem preC' (E : En p m c s cc nL own G A0) (hW : Wo G skA A0 s (jn σ τ ρ) H locs) {U : State} (hU : U.heap = H) (hV : s.WarmedH U.vm) : PreC G skC H.size σ U := by
  refine ⟨by rw [hU], by rw [hU]; exact A_C hW.1, ?_⟩
  rw [hU]
  exact Fx.go hV (fun a h1 h2 => hW.2.1.2.1 a h1 h2) (awC hW) E.2.2.2.2
theorem preR' (E : En p m c s cc nL own G A0) (hW : Wo G skA A0 s (jn σ τ ρ) H locs) {U : State} (hU : U.heap = H) (hV : s.WarmedH U.vm) : PreC (gR G) skR H.size τ U := by
  refine ⟨by rw [hU], by rw [hU]; exact A_R hW.1, ?_⟩
  rw [hU]
  exact Fx.go (G := G) hV (fun a h1 h2 => hW.2.1.2.1 a h1 h2) (awR hW) E.2.2.2.2
theorem nextC (hW : Wo G skA A0 s (jn σ τ ρ) H locs) {t : State} {H1 : Heap} {locs1 : List Loc} (ht : t.heap = H1) (hp : PoC G skC σ1 t) (hS : va_S A0 s.heap H1 locs1) (hk : ∀ q, q < H.size → ¬ Aw G.2.2.2 258 H.size q → H1[q]? = H[q]?) : Wo G skA A0 s (jn σ1 τ ρ) H1 locs1 := by
  unfold PoC at hp
  rw [ht] at hp
  exact ⟨A_toC hW.1 hp hk, hS, hW.2.2⟩
theorem nextR (hW : Wo G skA A0 s (jn σ τ ρ) H locs) {t : State} {H1 : Heap} {locs1 : List Loc} (ht : t.heap = H1) (hp : PoC (gR G) skR τ1 t) (hS : va_S A0 s.heap H1 locs1) (hk : ∀ q, q < H.size → ¬ Aw (gR G).2.2.2 53 H.size q → H1[q]? = H[q]?) : Wo G skA A0 s (jn σ τ1 ρ) H1 locs1 := by
  unfold PoC at hp
  rw [ht] at hp
  exact ⟨A_toR hW.1 hp hk, hS, hW.2.2⟩
/-- the law calls the class -/
theorem l_C {rv : Option Value} (E : En p m c s cc nL own G A0) (hW : Wo G skA A0 s (jn σ τ ρ) H locs)
    (hM : Met l y [.code y cc' maxL ret] rm (va_Pc (.ref (G.2.2.2 + 0) :: As) (PreC G skC H.size σ)) (QO (PoC G skC σ1) (Aw G.2.2.2 skC.1 H.size) rv) 0 0 (Aw G.2.2.2 skC.1 H.size))
    (hc : vwCl[6]? = some (y.cls, T9, k9)) (hl : Cond.methodLink own idx y ∈ FW) (hw : wV y cc' maxL ret) (hy : yOK y As.length) (hrm : rm.cells = 0 ∧ rm.slots = 0) (hR : rm.frames + 1 ≤ R.frames ∧ 8 + (maxL + 11) + rm.locals ≤ R.locals) (hls : ls.size = nL) (hst : (rest.map fun v => v.category).sum ≤ 8) (hcs : cells ≤ R.cells ∧ slots ≤ R.slots)
    (hstack : st0 = As.reverse ++ .ref (G.2.2.2 + 0) :: rest) (hdg : decode cc pc = .ok (.invokevirtual idx, 3))
    (kk : ∀ (H1 : Heap) (locs1 : List Loc), Wo G skA A0 s (jn σ1 τ ρ) H1 locs1 → W p l e R s m args below meth c H1 locs1 cells slots Q (F0 m (pc + 3) ls (rv.toList ++ rest))) : W p l e R s m args below meth c H locs cells slots Q (F0 m pc ls st0) := by
  subst hstack
  have hcode := E.wd (args := args) hw.2.2.2
  refine c_runF (va_runV (Ts := FW) (C := y.cls) ⟨E.1, E.2.1, E.2.2.1, E.2.2.2.1, fun w h => E.wd h⟩ hM ⟨⟨hrm.1, hrm.2, hR.1, hR.2, code_ws hcode, List.mem_singleton.mpr rfl, hcode, E.wd hw.2.2.1, hy.1, len_of hy.2, E.wd hl⟩, E.wd hw.1, E.wd hw.2.1⟩ ⟨PreC.blind, va_recv E.2.2.2.2.2.1 (A_C hW.1) hc (q0 := 0) (by rw [cel_get (by decide), cE_obj (show skC.2.1 0 = (0, 6) from rfl)]), fun U hU hV => ⟨rfl, preC' E hW hU hV⟩⟩ rfl rfl hls rfl (lv_room hst) hdg hcs) hW.2.1 (awC hW) (awC hW) (fun t H1 locs1 ht hp hS hk => kk H1 locs1 (nextC hW ht hp hS hk))
theorem l_R {rv : Option Value} (E : En p m c s cc nL own G A0) (hW : Wo G skA A0 s (jn σ τ ρ) H locs)
    (hM : Met l y [.code y cc' maxL ret] rm (va_Pc (.ref ((gR G).2.2.2 + 0) :: As) (PreC (gR G) skR H.size τ)) (QO (PoC (gR G) skR τ1) (Aw (gR G).2.2.2 skR.1 H.size) rv) 0 0 (Aw (gR G).2.2.2 skR.1 H.size))
    (hc : vwCl[7]? = some (y.cls, T9, k9)) (hl : Cond.methodLink own idx y ∈ FW) (hw : wV y cc' maxL ret) (hy : yOK y As.length) (hrm : rm.cells = 0 ∧ rm.slots = 0) (hR : rm.frames + 1 ≤ R.frames ∧ 8 + (maxL + 11) + rm.locals ≤ R.locals) (hls : ls.size = nL) (hst : (rest.map fun v => v.category).sum ≤ 8) (hcs : cells ≤ R.cells ∧ slots ≤ R.slots)
    (hstack : st0 = As.reverse ++ .ref (G.2.2.2 + 258) :: rest) (hdg : decode cc pc = .ok (.invokevirtual idx, 3))
    (kk : ∀ (H1 : Heap) (locs1 : List Loc), Wo G skA A0 s (jn σ τ1 ρ) H1 locs1 → W p l e R s m args below meth c H1 locs1 cells slots Q (F0 m (pc + 3) ls (rv.toList ++ rest))) : W p l e R s m args below meth c H locs cells slots Q (F0 m pc ls st0) := by
  subst hstack
  have hcode := E.wd (args := args) hw.2.2.2
  refine c_runF (va_runV (Ts := FW) (C := y.cls) (b := (gR G).2.2.2 + 0) ⟨E.1, E.2.1, E.2.2.1, E.2.2.2.1, fun w h => E.wd h⟩ hM ⟨⟨hrm.1, hrm.2, hR.1, hR.2, code_ws hcode, List.mem_singleton.mpr rfl, hcode, E.wd hw.2.2.1, hy.1, len_of hy.2, E.wd hl⟩, E.wd hw.1, E.wd hw.2.1⟩ ⟨PreC.blind, va_recv E.2.2.2.2.2.1 (A_R hW.1) hc (q0 := 0) (by rw [cel_get (by decide), cE_obj (show skR.2.1 0 = (0, 7) from rfl)]; rfl), fun U hU hV => ⟨rfl, preR' E hW hU hV⟩⟩ rfl rfl hls rfl (lv_room hst) hdg hcs) hW.2.1 (awR hW) (awR hW) (fun t H1 locs1 ht hp hS hk => kk H1 locs1 (nextR hW ht hp hS hk))
theorem l_CX {rv : Nat ⊕ Option Value} {mc1 ms1 : Nat} (E : En p m c s cc nL own G A0) (hW : Wo G skA A0 s (jn σ τ ρ) H locs)
    (hM : vx_Met l y [.code y cc' maxL ret] rm (va_Pc (.ref (G.2.2.2 + 0) :: As) (PreC G skC H.size σ)) (QX (PoC G skC σ1) (Aw G.2.2.2 skC.1 H.size) rv) (XX (PoC G skC σ1) (Aw G.2.2.2 skC.1 H.size) rv) mc1 ms1 (Aw G.2.2.2 skC.1 H.size))
    (hc : vwCl[6]? = some (y.cls, T9, k9)) (hl : Cond.methodLink own idx y ∈ FW) (hw : wV y cc' maxL ret) (hy : yOK y As.length) (hrm : rm.cells = mc1 ∧ rm.slots = ms1) (hR : rm.frames + 1 ≤ R.frames ∧ 8 + (maxL + 11) + rm.locals ≤ R.locals) (hls : ls.size = nL) (hst : (rest.map fun v => v.category).sum ≤ 8) (hcs : cells + mc1 ≤ R.cells ∧ slots + ms1 ≤ R.slots)
    (hstack : st0 = As.reverse ++ .ref (G.2.2.2 + 0) :: rest) (hdg : decode cc pc = .ok (.invokevirtual idx, 3))
    (kx : ∀ (ex : Nat) (ce : Cell) (q9 : Addr) (H1 : Heap) (locs1 : List Loc), rv = .inl ex → Wo G skA A0 s (jn σ1 τ ρ) H1 locs1 → H1[q9]? = some ce → ce.vm = .none → s.vm.findClass (exN ex) = some ce.cls → vx_W p l e R s m args below meth c H1 locs1 (cells + mc1) (slots + ms1) Q (F0 m pc ls rest) q9)
    (kk : ∀ (v : Option Value) (H1 : Heap) (locs1 : List Loc), rv = .inr v → Wo G skA A0 s (jn σ1 τ ρ) H1 locs1 → W p l e R s m args below meth c H1 locs1 (cells + mc1) (slots + ms1) Q (F0 m (pc + 3) ls (v.toList ++ rest))) : W p l e R s m args below meth c H locs cells slots Q (F0 m pc ls st0) := by
  subst hstack
  have hcode := E.wd (args := args) hw.2.2.2
  refine c_runXF (vx_runV (Ts := FW) (C := y.cls) ⟨E.1, E.2.1, E.2.2.1, E.2.2.2.1, fun w h => E.wd h⟩ hM ⟨⟨hrm.1, hrm.2, hR.1, hR.2, code_ws hcode, List.mem_singleton.mpr rfl, hcode, E.wd hw.2.2.1, hy.1, len_of hy.2, E.wd hl⟩, E.wd hw.1, E.wd hw.2.1⟩ ⟨PreC.blind, va_recv E.2.2.2.2.2.1 (A_C hW.1) hc (q0 := 0) (by rw [cel_get (by decide), cE_obj (show skC.2.1 0 = (0, 6) from rfl)]), fun U hU hV => ⟨rfl, preC' E hW hU hV⟩⟩ rfl rfl hls rfl (lv_room hst) hdg hcs) hW.2.1 (awC hW) (awC hW) (fun ex ce q9 t H1 locs1 hrv ht hp hS hk h1 h2 h3 => kx ex ce q9 H1 locs1 hrv (nextC hW ht hp hS hk) h1 h2 h3) (fun v t H1 locs1 hrv ht hp hS hk => kk v H1 locs1 hrv (nextC hW ht hp hS hk))
end LCALLS
