/-! WRAPPERS: the law's own static methods, each with its table of handlers -/
def Nc4 (U : State) : Prop := ∀ i j, 1 ≤ i → i ≤ 4 → 1 ≤ j → j ≤ 4 → i ≠ j → va_Nc (exN i) (exN j) U
theorem Nc4.go {s U : State} (hW : s.WarmedH U.vm) (h : Nc4 s) : Nc4 U := fun i j a b c d e => (h i j a b c d e).moved hW.alike
def PreL (G : GP) (sz : Nat) (σ : St) (U : State) : Prop := PreC G skA sz σ U ∧ Nc4 U
theorem PreL.blind {G : GP} {sz : Nat} {σ : St} {as : List Value} : FrameBlind (va_Pc as (PreL G sz σ)) := by
  rintro a U g mk ⟨h0, ⟨h1, h2, h3⟩, h4⟩
  exact ⟨h0, ⟨h1, h2, Fx.go (State.WarmedH.refl U) (fun _ _ _ => rfl) (fun _ h => h) h3⟩, h4.go (State.WarmedH.refl U)⟩
theorem mkMetW {l : Launch} {y : MethodName} {cc : ByteArray} {n : Nat} {ret : Option FieldType} {hh : List (Nat × Nat × Nat × Nat)} {rm : Room} {G : GP} {sz : Nat} {as : List Value} {σ σ0 : St} {rv : Option Value} {mc ms : Nat} (hy : plainName y.cls = true) (hn : (lg_sl as).length ≤ n)
    (body : ∀ {p : Program} {e : Env} {s : State} {m : MethodId} {below : List Frame} {meth : Method} {c : Code} {ls : Array Slot}, En p m c s cc n y.cls G (Aw G.2.2.2 skA.1 s.heap.size) → Wo G skA (Aw G.2.2.2 skA.1 s.heap.size) s σ s.heap [] → lv_has ls n (lv_args 0 as) → meth.sig.returnType = ret → meth.locks = false → c.exceptionTable.toList = tableOf hh → Nc4 s →
      W p l e rm s m as.toArray below meth c s.heap [] 0 0 (MQ below (QO (PoC G skA σ0) (Aw G.2.2.2 skA.1 s.heap.size) rv) as.toArray s mc ms (Aw G.2.2.2 skA.1 s.heap.size)) (F0 m 0 ls [])) :
    Met l y [.codeWith y cc n ret hh] rm (va_Pc as (PreL G sz σ)) (QO (PoC G skA σ0) (Aw G.2.2.2 skA.1 sz) rv) mc ms (Aw G.2.2.2 skA.1 sz) := by
  refine MetFree.of_bodyS (code := cc) (maxLocals := n) (ret := ret) hy ?_ ?_
  · intro args s m h hn
    obtain ⟨m9, meth, c, hn9, h1, h2, h3, h4, -, h5, h6, -⟩ := Cond.codeWith_spec (atoms_spec (ws := [.codeWith y cc n ret hh]) h _ List.mem_cons_self)
    cases hn.symm.trans hn9
    exact ⟨meth, c, h1, h2, h3, h4, h5, h6⟩
  intro p e s m args below meth c s₁ B hml hv _
  obtain ⟨rfl, ⟨hsz, hP, hF⟩, hN⟩ := hv
  subst hsz
  have hh0 : s₁.heap = s.heap := by rw [B.state]; rfl
  have hT : c.exceptionTable.toList = tableOf hh := vx_table (x := y) B (atoms_spec (ws := [.codeWith y cc n ret hh]) B.pre _ List.mem_cons_self)
  suffices k : W p l e rm s m as.toArray below meth c s.heap [] 0 0 (MQ below (QO (PoC G skA σ0) (Aw G.2.2.2 skA.1 s.heap.size) rv) as.toArray s mc ms (Aw G.2.2.2 skA.1 s.heap.size)) (entryFrame m as.toArray n) by
    obtain ⟨t, a1, o, b1, b2, b3⟩ := k s₁ hh0 (Stand.of_body B)
    exact ⟨t, o, a1, b1, b2, ⟨b3.1, b3.2⟩⟩
  rw [lg_entry_eq]
  exact body ⟨B.exec, B.bytes, hml, findClass_of_methodNamed B.named, hF⟩ ⟨hP, va_S.rf, fun q hq => Or.inl ⟨Nat.le_add_right _ _, by omega⟩, skA_ok, fun q h => Or.inr h⟩ (lv_entry as hn) B.returns B.notSynchronized hT hN
/-- what a wrapper answers: 0 and the answer in the law's row of one, or the place of the exception in its table -/
def wrp (xs : List Nat) (tl : Int32 → Int64) (x : Option ((Nat ⊕ Int32) × St)) (ρ : St) : Option (Int32 × St × St) := match x with
  | some (.inr v, σ1) => some (0, σ1, sJ ρ 0 0 (tl v))
  | some (.inl e, σ1) => match xs with
    | [] => none
    | x1 :: t1 => if e = x1 then some (1, σ1, ρ) else match t1 with
      | [] => none
      | x2 :: t2 => if e = x2 then some (2, σ1, ρ) else match t2 with
        | [] => none
        | x3 :: t3 => if e = x3 then some (3, σ1, ρ) else match t3 with
          | [] => none
          | x4 :: _ => if e = x4 then some (4, σ1, ρ) else none
  | none => none
theorem wrp_some {xs : List Nat} {tl : Int32 → Int64} {x : Option ((Nat ⊕ Int32) × St)} {ρ : St} {y : Int32 × St × St} (h : wrp xs tl x ρ = some y) : ∃ r σ2, x = some (r, σ2) := by
  rcases x with _ | ⟨r, σ2⟩
  · cases h
  · exact ⟨r, σ2, rfl⟩
theorem vin01 : vp_in 0 1 := by unfold vp_in; decide
def tz (v : Int32) : Int64 := if v = 0 then 0 else 1
section WROWS
variable {p : Program} {l : Launch} {e : Env} {R : Room} {s : State} {m : MethodId} {args : Array Value} {below : List Frame} {meth : Method} {c : Code} {H : Heap} {locs : List Loc} {cells slots : Nat} {Q : State → Prop}
variable {cc : ByteArray} {nL : Nat} {own : String} {G : GP} {A0 : Nat → Prop} {sk : Sk} {σ σ0 σ1 : St} {pc mc ms : Nat} {ls : Array Slot} {rest st0 As : List Value}
theorem e_iW (E : En p m c s cc nL own G A0) (hW : Wo G sk A0 s σ H locs) (hr : meth.sig.returnType = some .int) (hlk : meth.locks = false) {v r0 : Int32} (h : v = r0) (hσ : σ = σ0) (hc : cells ≤ mc) (hs : slots ≤ ms) (hdg : decode cc pc = .ok (.ireturn, 1)) :
    W p l e R s m args below meth c H locs cells slots (MQ below (QO (PoC G sk σ0) A0 (some (.int r0))) args s mc ms A0) (F0 m pc ls [.int v]) := by
  subst h; subst hσ
  exact W.widen hc hs (W.iret E.1 E.2.1 hr (fun t ht _ => ⟨⟨rfl, hW.po ht⟩, hW.2.1.F ht⟩) hW.2.1.2.2 hdg hlk)
theorem w_catch (E : En p m c s cc nL own G A0) (hN : Nc4 s) (pre suf : List (Nat × Nat × Nat × Nat)) (z : Nat × Nat × Nat × Nat) (hT : c.exceptionTable.toList = tableOf (pre ++ z :: suf)) {ex : Nat} {q9 : Addr} {ce : Cell} (hex : 1 ≤ ex ∧ ex ≤ 4)
    (hpre : ∀ y ∈ pre, y.2.2.2 ≠ 0 ∧ ∃ e2, 1 ≤ e2 ∧ e2 ≤ 4 ∧ ex ≠ e2 ∧ Cond.classLink own y.2.2.2 (exN e2) ∈ FW) (hlo : z.1 ≤ pc ∧ pc < z.2.1) (h0 : z.2.2.2 ≠ 0) (hl : Cond.classLink own z.2.2.2 (exN ex) ∈ FW) (hc : Cond.castable (exN ex) (exN ex) ∈ FW) (h1 : H[q9]? = some ce) (h2 : ce.vm = .none) (h3 : s.vm.findClass (exN ex) = some ce.cls)
    (kk : W p l e R s m args below meth c H locs cells slots Q (F0 m z.2.2.1 ls [.ref q9])) : vx_W p l e R s m args below meth c H locs cells slots Q (F0 m pc ls rest) q9 := by
  refine vx_catch E.2.2.2.1 (tableOf pre) ⟨z.1, z.2.1, z.2.2.1, z.2.2.2⟩ (tableOf suf) (by rw [hT]; simp [tableOf]) (fun x hx => ?_) (by simp [covers, hlo.1, hlo.2]) h0 (E.wd hl) (E.wd hc) h1 h2 h3 kk
  obtain ⟨y, hy, rfl⟩ := List.mem_map.mp hx
  obtain ⟨k0, e2, k1, k2, k3, k4⟩ := hpre y hy
  exact Or.inr ⟨k0, _, E.wd k4, hN _ _ hex.1 hex.2 k1 k2 k3⟩
theorem c_SW {rv : Option Value} {mc1 ms1 idx maxL : Nat} {y : MethodName} {cc' : ByteArray} {ret : Option FieldType} {hh : List (Nat × Nat × Nat × Nat)} {rm : Room} (E : En p m c s cc nL own G A0) (hN : Nc4 s) (hW : Wo G skA A0 s σ H locs)
    (hM : Met l y [.codeWith y cc' maxL ret hh] rm (va_Pc As (PreL G H.size σ)) (QO (PoC G skA σ1) (Aw G.2.2.2 skA.1 H.size) rv) mc1 ms1 (Aw G.2.2.2 skA.1 H.size))
    (hl : Cond.methodLink own idx y ∈ FW) (hw : Cond.static y ∈ FW ∧ Cond.initialized y.cls ∈ FW ∧ Cond.codeWith y cc' maxL ret hh ∈ FW) (hy : yOK y As.length) (hrm : rm.cells = mc1 ∧ rm.slots = ms1) (hR : rm.frames + 1 ≤ R.frames ∧ 8 + (maxL + 11) + rm.locals ≤ R.locals) (hls : ls.size = nL) (hst : (rest.map fun v => v.category).sum ≤ 8) (hcs : cells + mc1 ≤ R.cells ∧ slots + ms1 ≤ R.slots)
    (hstack : st0 = As.reverse ++ rest) (hdg : decode cc pc = .ok (.invokestatic idx, 3))
    (kk : ∀ (H1 : Heap) (locs1 : List Loc), Wo G skA A0 s σ1 H1 locs1 → W p l e R s m args below meth c H1 locs1 (cells + mc1) (slots + ms1) Q (F0 m (pc + 3) ls (rv.toList ++ rest))) : W p l e R s m args below meth c H locs cells slots Q (F0 m pc ls st0) := by
  subst hstack
  have hcode := E.wd (args := args) hw.2.2
  refine c_run (vx_runSW (Ts := FW) ⟨E.1, E.2.1, E.2.2.1, E.2.2.2.1, fun w h => E.wd h⟩ hM ⟨⟨hrm.1, hrm.2, hR.1, hR.2, fun w hw a' U hV => ?_, List.mem_singleton.mpr rfl⟩, hcode, E.wd hw.2.1, hy.1, len_of hy.2, E.wd hl, E.wd hw.1⟩ ⟨PreL.blind, fun U hU hV => ⟨rfl, PreC.of E.2.2.2.2 hW hU hV, hN.go hV⟩⟩ rfl rfl hls rfl (lv_room hst) hdg hcs) hW.2.1 hW.aw hW.aw (fun t H1 locs1 ht hp hS => kk H1 locs1 (hW.next ht hp hS))
  rw [List.mem_singleton] at hw
  subst hw
  exact word_at hV (Or.inl rfl) hcode
end WROWS
theorem cst_1 : Cond.castable (exN 1) (exN 1) ∈ FW := by decide +kernel
theorem cst_2 : Cond.castable (exN 2) (exN 2) ∈ FW := by decide +kernel
theorem cst_3 : Cond.castable (exN 3) (exN 3) ∈ FW := by decide +kernel
theorem cst_4 : Cond.castable (exN 4) (exN 4) ∈ FW := by decide +kernel
theorem ini_L : Cond.initialized RL ∈ FW := by decide +kernel
