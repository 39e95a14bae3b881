def mnI (x z : Int32) : Int32 := if z < x then z else x
def mxI (x z : Int32) : Int32 := if x < z then z else x
def mnJ (x z : Int64) : Int64 := if z < x then z else x
def mxJ (x z : Int64) : Int64 := if z < x then x else z
def abJ (x : Int64) : Int64 := if 0 < x then x else -x
section CALLS
variable {p : Program} {l : Launch} {e : Env} {R : Room} {s : State} {m : MethodId} {args : Array Value} {below : List Frame} {meth : Method} {c : Code} {H : Heap} {locs : List Loc} {cells slots : Nat} {Q : State → Prop}
variable {cc : ByteArray} {nL : Nat} {own : String} {G : GP} {A0 : Nat → Prop} {sk : Sk} {σ σ1 : St} {pc mc ms : Nat} {ls : Array Slot} {rest st0 As : List Value}
variable {q ci idx maxL k9 : Nat} {T9 : u_T} {y : MethodName} {cc' : ByteArray} {ret : Option FieldType} {rm : Room} {host : String}
/-- the words of a method of this name: 0 by its object, 1 static -/
def yOK (y : MethodName) (n : Nat) : Prop := (y.cls ≠ "java/lang/invoke/MethodHandle" ∧ y.cls ≠ "java/lang/invoke/VarHandle") ∧ (parseMethodDescriptor y.desc).map (fun d => d.parameters.length) = some n
def wV (y : MethodName) (cc' : ByteArray) (maxL : Nat) (ret : Option FieldType) : Prop := Cond.instanceMethod y ∈ FW ∧ Cond.selects y.cls y y ∈ FW ∧ Cond.initialized y.cls ∈ FW ∧ Cond.code y cc' maxL ret ∈ FW
def wS (y : MethodName) (cc' : ByteArray) (maxL : Nat) (ret : Option FieldType) : Prop := Cond.static y ∈ FW ∧ Cond.initialized y.cls ∈ FW ∧ Cond.code y cc' maxL ret ∈ FW
theorem code_ws {s : State} {args : Array Value} {y : MethodName} {cc' : ByteArray} {maxL : Nat} {ret : Option FieldType} (h : (Cond.code y cc' maxL ret).before args s = true) : ∀ w ∈ [Cond.code y cc' maxL ret], ∀ (a' : Array Value) (U : State), s.WarmedH U.vm → w.before a' U = true := by
  intro w hw a' U hW
  rw [List.mem_singleton] at hw
  subst hw
  exact word_at hW (Or.inl rfl) h
theorem len_of {y : MethodName} {n : Nat} (h : (parseMethodDescriptor y.desc).map (fun d => d.parameters.length) = some n) : ∀ sig, parseMethodDescriptor y.desc = some sig → n = sig.parameters.length := by
  intro sig hs
  rw [hs] at h
  exact (Option.some.inj h).symm
theorem c_V {rv : Option Value} (E : En p m c s cc nL own G A0) (hW : Wo G sk A0 s σ H locs)
    (hM : Met l y [.code y cc' maxL ret] rm (va_Pc (.ref (G.2.2.2 + q) :: As) (PreC G sk H.size σ)) (QO (PoC G sk σ1) (Aw G.2.2.2 sk.1 H.size) rv) 0 0 (Aw G.2.2.2 sk.1 H.size))
    (hk : sk.2.1 q = (0, ci)) (hc : vwCl[ci]? = some (y.cls, T9, k9)) (hl : Cond.methodLink own idx y ∈ FW) (hw : wV y cc' maxL ret) (hy : yOK y As.length) (hrm : rm.cells = 0 ∧ rm.slots = 0) (hR : rm.frames + 1 ≤ R.frames ∧ 8 + (maxL + 11) + rm.locals ≤ R.locals) (hls : ls.size = nL) (hst : (rest.map fun v => v.category).sum ≤ 8) (hcs : cells ≤ R.cells ∧ slots ≤ R.slots)
    (hstack : st0 = As.reverse ++ .ref (G.2.2.2 + q) :: rest) (hdg : decode cc pc = .ok (.invokevirtual idx, 3))
    (kk : ∀ (H1 : Heap) (locs1 : List Loc), Wo G sk A0 s σ1 H1 locs1 → W p l e R s m args below meth c H1 locs1 cells slots Q (F0 m (pc + 3) ls (rv.toList ++ rest))) : W p l e R s m args below meth c H locs cells slots Q (F0 m pc ls st0) := by
  subst hstack
  have hcode := E.wd (args := args) hw.2.2.2
  refine c_run (va_runV (Ts := FW) (C := y.cls) ⟨E.1, E.2.1, E.2.2.1, E.2.2.2.1, fun w h => E.wd h⟩ hM ⟨⟨hrm.1, hrm.2, hR.1, hR.2, code_ws hcode, List.mem_singleton.mpr rfl, hcode, E.wd hw.2.2.1, hy.1, len_of hy.2, E.wd hl⟩, E.wd hw.1, E.wd hw.2.1⟩ ⟨PreC.blind, va_recv E.2.2.2.2.2.1 hW.1 hc (q0 := q) (by rw [cel_get (hW.2.2.2.1.lt hk (by decide)), cE_obj hk]), fun U hU hV => ⟨rfl, PreC.of E.2.2.2.2 hW hU hV⟩⟩ rfl rfl hls rfl (lv_room hst) hdg hcs) hW.2.1 hW.aw hW.aw (fun t H1 locs1 ht hp hS => kk H1 locs1 (hW.next ht hp hS))
theorem c_S {rv : Option Value} (E : En p m c s cc nL own G A0) (hW : Wo G sk A0 s σ H locs)
    (hM : Met l y [.code y cc' maxL ret] rm (va_Pc As (PreC G sk H.size σ)) (QO (PoC G sk σ1) (Aw G.2.2.2 sk.1 H.size) rv) 0 0 (Aw G.2.2.2 sk.1 H.size))
    (hl : Cond.methodLink own idx y ∈ FW) (hw : wS y cc' maxL ret) (hy : yOK y As.length) (hrm : rm.cells = 0 ∧ rm.slots = 0) (hR : rm.frames + 1 ≤ R.frames ∧ 8 + (maxL + 11) + rm.locals ≤ R.locals) (hls : ls.size = nL) (hst : (rest.map fun v => v.category).sum ≤ 8) (hcs : cells ≤ R.cells ∧ slots ≤ R.slots)
    (hstack : st0 = As.reverse ++ rest) (hdg : decode cc pc = .ok (.invokestatic idx, 3))
    (kk : ∀ (H1 : Heap) (locs1 : List Loc), Wo G sk A0 s σ1 H1 locs1 → W p l e R s m args below meth c H1 locs1 cells slots Q (F0 m (pc + 3) ls (rv.toList ++ rest))) : W p l e R s m args below meth c H locs cells slots Q (F0 m pc ls st0) := by
  subst hstack
  have hcode := E.wd (args := args) hw.2.2
  refine c_run (va_runS (Ts := FW) ⟨E.1, E.2.1, E.2.2.1, E.2.2.2.1, fun w h => E.wd h⟩ hM ⟨⟨hrm.1, hrm.2, hR.1, hR.2, code_ws hcode, List.mem_singleton.mpr rfl, hcode, E.wd hw.2.1, hy.1, len_of hy.2, E.wd hl⟩, E.wd hw.1⟩ ⟨PreC.blind, fun U hU hV => ⟨rfl, PreC.of E.2.2.2.2 hW hU hV⟩⟩ rfl rfl hls rfl (lv_room hst) hdg hcs) hW.2.1 hW.aw hW.aw (fun t H1 locs1 ht hp hS => kk H1 locs1 (hW.next ht hp hS))
theorem c_SN {rv : Option Value} (E : En p m c s cc nL own G A0) (hW : Wo G sk A0 s σ H locs)
    (hM : Met l y [.code y cc' maxL ret] rm (va_Pc As (PreC G sk H.size σ)) (QO (PoC G sk σ1) (Aw G.2.2.2 sk.1 H.size) rv) 0 0 (Aw G.2.2.2 sk.1 H.size))
    (hl : Cond.methodLinkNest own idx y host ∈ FW) (hw : wS y cc' maxL ret) (hy : yOK y As.length) (hrm : rm.cells = 0 ∧ rm.slots = 0) (hR : rm.frames + 1 ≤ R.frames ∧ 8 + (maxL + 11) + rm.locals ≤ R.locals) (hls : ls.size = nL) (hst : (rest.map fun v => v.category).sum ≤ 8) (hcs : cells ≤ R.cells ∧ slots ≤ R.slots)
    (hstack : st0 = As.reverse ++ rest) (hdg : decode cc pc = .ok (.invokestatic idx, 3))
    (kk : ∀ (H1 : Heap) (locs1 : List Loc), Wo G sk A0 s σ1 H1 locs1 → W p l e R s m args below meth c H1 locs1 cells slots Q (F0 m (pc + 3) ls (rv.toList ++ rest))) : W p l e R s m args below meth c H locs cells slots Q (F0 m pc ls st0) := by
  subst hstack
  have hcode := E.wd (args := args) hw.2.2
  refine c_run (va_runSN (Ts := FW) ⟨E.1, E.2.1, E.2.2.1, E.2.2.2.1, fun w h => E.wd h⟩ hM ⟨⟨⟨hrm.1, hrm.2, hR.1, hR.2, code_ws hcode, List.mem_singleton.mpr rfl⟩, hcode, E.wd hw.2.1, hy.1, len_of hy.2, E.wd hl⟩, E.wd hw.1, trivial⟩ ⟨PreC.blind, fun U hU hV => ⟨rfl, PreC.of E.2.2.2.2 hW hU hV⟩⟩ rfl rfl hls rfl (lv_room hst) hdg hcs) hW.2.1 hW.aw hW.aw (fun t H1 locs1 ht hp hS => kk H1 locs1 (hW.next ht hp hS))
theorem c_VX {rv : Nat ⊕ Option Value} {mc1 ms1 : Nat} (E : En p m c s cc nL own G A0) (hW : Wo G sk A0 s σ H locs)
    (hM : vx_Met l y [.code y cc' maxL ret] rm (va_Pc (.ref (G.2.2.2 + q) :: As) (PreC G sk H.size σ)) (QX (PoC G sk σ1) (Aw G.2.2.2 sk.1 H.size) rv) (XX (PoC G sk σ1) (Aw G.2.2.2 sk.1 H.size) rv) mc1 ms1 (Aw G.2.2.2 sk.1 H.size))
    (hk : sk.2.1 q = (0, ci)) (hc : vwCl[ci]? = some (y.cls, T9, k9)) (hl : Cond.methodLink own idx y ∈ FW) (hw : wV y cc' maxL ret) (hy : yOK y As.length) (hrm : rm.cells = mc1 ∧ rm.slots = ms1) (hR : rm.frames + 1 ≤ R.frames ∧ 8 + (maxL + 11) + rm.locals ≤ R.locals) (hls : ls.size = nL) (hst : (rest.map fun v => v.category).sum ≤ 8) (hcs : cells + mc1 ≤ R.cells ∧ slots + ms1 ≤ R.slots)
    (hstack : st0 = As.reverse ++ .ref (G.2.2.2 + q) :: rest) (hdg : decode cc pc = .ok (.invokevirtual idx, 3))
    (kx : ∀ (ex : Nat) (ce : Cell) (q9 : Addr) (H1 : Heap) (locs1 : List Loc), rv = .inl ex → Wo G sk A0 s σ1 H1 locs1 → H1[q9]? = some ce → ce.vm = .none → s.vm.findClass (exN ex) = some ce.cls → vx_W p l e R s m args below meth c H1 locs1 (cells + mc1) (slots + ms1) Q (F0 m pc ls rest) q9)
    (kk : ∀ (v : Option Value) (H1 : Heap) (locs1 : List Loc), rv = .inr v → Wo G sk A0 s σ1 H1 locs1 → W p l e R s m args below meth c H1 locs1 (cells + mc1) (slots + ms1) Q (F0 m (pc + 3) ls (v.toList ++ rest))) : W p l e R s m args below meth c H locs cells slots Q (F0 m pc ls st0) := by
  subst hstack
  have hcode := E.wd (args := args) hw.2.2.2
  refine c_runX (vx_runV (Ts := FW) (C := y.cls) ⟨E.1, E.2.1, E.2.2.1, E.2.2.2.1, fun w h => E.wd h⟩ hM ⟨⟨hrm.1, hrm.2, hR.1, hR.2, code_ws hcode, List.mem_singleton.mpr rfl, hcode, E.wd hw.2.2.1, hy.1, len_of hy.2, E.wd hl⟩, E.wd hw.1, E.wd hw.2.1⟩ ⟨PreC.blind, va_recv E.2.2.2.2.2.1 hW.1 hc (q0 := q) (by rw [cel_get (hW.2.2.2.1.lt hk (by decide)), cE_obj hk]), fun U hU hV => ⟨rfl, PreC.of E.2.2.2.2 hW hU hV⟩⟩ rfl rfl hls rfl (lv_room hst) hdg hcs) hW.2.1 hW.aw hW.aw (fun ex ce q9 t H1 locs1 hrv ht hp hS h1 h2 h3 => kx ex ce q9 H1 locs1 hrv (hW.next ht hp hS) h1 h2 h3) (fun v t H1 locs1 hrv ht hp hS => kk v H1 locs1 hrv (hW.next ht hp hS))
theorem c_SX {rv : Nat ⊕ Option Value} {mc1 ms1 : Nat} (E : En p m c s cc nL own G A0) (hW : Wo G sk A0 s σ H locs)
    (hM : vx_Met l y [.code y cc' maxL ret] rm (va_Pc As (PreC G sk H.size σ)) (QX (PoC G sk σ1) (Aw G.2.2.2 sk.1 H.size) rv) (XX (PoC G sk σ1) (Aw G.2.2.2 sk.1 H.size) rv) mc1 ms1 (Aw G.2.2.2 sk.1 H.size))
    (hl : Cond.methodLink own idx y ∈ FW) (hw : wS y cc' maxL ret) (hy : yOK y As.length) (hrm : rm.cells = mc1 ∧ rm.slots = ms1) (hR : rm.frames + 1 ≤ R.frames ∧ 8 + (maxL + 11) + rm.locals ≤ R.locals) (hls : ls.size = nL) (hst : (rest.map fun v => v.category).sum ≤ 8) (hcs : cells + mc1 ≤ R.cells ∧ slots + ms1 ≤ R.slots)
    (hstack : st0 = As.reverse ++ rest) (hdg : decode cc pc = .ok (.invokestatic idx, 3))
    (kx : ∀ (ex : Nat) (ce : Cell) (q9 : Addr) (H1 : Heap) (locs1 : List Loc), rv = .inl ex → Wo G sk A0 s σ1 H1 locs1 → H1[q9]? = some ce → ce.vm = .none → s.vm.findClass (exN ex) = some ce.cls → vx_W p l e R s m args below meth c H1 locs1 (cells + mc1) (slots + ms1) Q (F0 m pc ls rest) q9)
    (kk : ∀ (v : Option Value) (H1 : Heap) (locs1 : List Loc), rv = .inr v → Wo G sk A0 s σ1 H1 locs1 → W p l e R s m args below meth c H1 locs1 (cells + mc1) (slots + ms1) Q (F0 m (pc + 3) ls (v.toList ++ rest))) : W p l e R s m args below meth c H locs cells slots Q (F0 m pc ls st0) := by
  subst hstack
  have hcode := E.wd (args := args) hw.2.2
  refine c_runX (vx_runS (Ts := FW) ⟨E.1, E.2.1, E.2.2.1, E.2.2.2.1, fun w h => E.wd h⟩ hM ⟨⟨hrm.1, hrm.2, hR.1, hR.2, code_ws hcode, List.mem_singleton.mpr rfl, hcode, E.wd hw.2.1, hy.1, len_of hy.2, E.wd hl⟩, E.wd hw.1⟩ ⟨PreC.blind, fun U hU hV => ⟨rfl, PreC.of E.2.2.2.2 hW hU hV⟩⟩ rfl rfl hls rfl (lv_room hst) hdg hcs) hW.2.1 hW.aw hW.aw (fun ex ce q9 t H1 locs1 hrv ht hp hS h1 h2 h3 => kx ex ce q9 H1 locs1 hrv (hW.next ht hp hS) h1 h2 h3) (fun v t H1 locs1 hrv ht hp hS => kk v H1 locs1 hrv (hW.next ht hp hS))
/-- Math's own -/
theorem r_minI (E : En p m c s cc nL own G A0) (hls : ls.size = nL) {x z : Int32} (hw : Cond.methodLink own idx Lib.Math.min.name ∈ FW ∧ Cond.static Lib.Math.min.name ∈ FW ∧ Cond.initialized "java/lang/Math" ∈ FW ∧ Cond.code Lib.Math.min.name Lib.Math.min.code 2 (some .int) ∈ FW) (hR : 1 ≤ R.frames ∧ (rest.map fun v => v.category).sum + 13 ≤ R.locals) (hcs : cells ≤ R.cells ∧ slots ≤ R.slots) (hdg : decode cc pc = .ok (.invokestatic idx, 3))
    (kk : W p l e R s m args below meth c H locs cells slots Q (F0 m (pc + 3) ls (.int (mnI x z) :: rest))) : W p l e R s m args below meth c H locs cells slots Q (F0 m pc ls (.int z :: .int x :: rest)) :=
  va_mmin E.1 E.2.1 (E.2.2.1.trans hls.symm) E.2.2.2.1 (E.wd hw.1) (E.wd hw.2.1) (E.wd hw.2.2.1) (E.wd hw.2.2.2) hR.1 hR.2 hcs.1 hcs.2 hdg kk
theorem r_maxI (E : En p m c s cc nL own G A0) (hls : ls.size = nL) {x z : Int32} (hw : Cond.methodLink own idx Lib.Math.max.name ∈ FW ∧ Cond.static Lib.Math.max.name ∈ FW ∧ Cond.initialized "java/lang/Math" ∈ FW ∧ Cond.code Lib.Math.max.name Lib.Math.max.code 2 (some .int) ∈ FW) (hR : 1 ≤ R.frames ∧ (rest.map fun v => v.category).sum + 13 ≤ R.locals) (hcs : cells ≤ R.cells ∧ slots ≤ R.slots) (hdg : decode cc pc = .ok (.invokestatic idx, 3))
    (kk : W p l e R s m args below meth c H locs cells slots Q (F0 m (pc + 3) ls (.int (mxI x z) :: rest))) : W p l e R s m args below meth c H locs cells slots Q (F0 m pc ls (.int z :: .int x :: rest)) :=
  va_mmax E.1 E.2.1 (E.2.2.1.trans hls.symm) E.2.2.2.1 (E.wd hw.1) (E.wd hw.2.1) (E.wd hw.2.2.1) (E.wd hw.2.2.2) hR.1 hR.2 hcs.1 hcs.2 hdg kk
theorem r_minJ (E : En p m c s cc nL own G A0) (hls : ls.size = nL) {x z : Int64} (hw : Cond.methodLink own idx Lib.MathLoose.min_long.x ∈ FW ∧ Cond.static Lib.MathLoose.min_long.x ∈ FW ∧ Cond.initialized "java/lang/Math" ∈ FW ∧ Cond.code Lib.MathLoose.min_long.x Lib.MathLoose.min_long.code 4 (some .long) ∈ FW) (hR : 1 ≤ R.frames ∧ (rest.map fun v => v.category).sum + 15 ≤ R.locals) (hcs : cells ≤ R.cells ∧ slots ≤ R.slots) (hdg : decode cc pc = .ok (.invokestatic idx, 3))
    (kk : W p l e R s m args below meth c H locs cells slots Q (F0 m (pc + 3) ls (.long (mnJ x z) :: rest))) : W p l e R s m args below meth c H locs cells slots Q (F0 m pc ls (.long z :: .long x :: rest)) :=
  va_mmin_long E.1 E.2.1 (E.2.2.1.trans hls.symm) E.2.2.2.1 (E.wd hw.1) (E.wd hw.2.1) (E.wd hw.2.2.1) (E.wd hw.2.2.2) hR.1 hR.2 hcs.1 hcs.2 hdg kk
theorem r_maxJ (E : En p m c s cc nL own G A0) (hls : ls.size = nL) {x z : Int64} (hw : Cond.methodLink own idx Lib.MathLoose.max_long.x ∈ FW ∧ Cond.static Lib.MathLoose.max_long.x ∈ FW ∧ Cond.initialized "java/lang/Math" ∈ FW ∧ Cond.code Lib.MathLoose.max_long.x Lib.MathLoose.max_long.code 4 (some .long) ∈ FW) (hR : 1 ≤ R.frames ∧ (rest.map fun v => v.category).sum + 15 ≤ R.locals) (hcs : cells ≤ R.cells ∧ slots ≤ R.slots) (hdg : decode cc pc = .ok (.invokestatic idx, 3))
    (kk : W p l e R s m args below meth c H locs cells slots Q (F0 m (pc + 3) ls (.long (mxJ x z) :: rest))) : W p l e R s m args below meth c H locs cells slots Q (F0 m pc ls (.long z :: .long x :: rest)) :=
  va_mmax_long E.1 E.2.1 (E.2.2.1.trans hls.symm) E.2.2.2.1 (E.wd hw.1) (E.wd hw.2.1) (E.wd hw.2.2.1) (E.wd hw.2.2.2) hR.1 hR.2 hcs.1 hcs.2 hdg kk
theorem r_absJ (E : En p m c s cc nL own G A0) (hls : ls.size = nL) {x : Int64} (hw : Cond.methodLink own idx Lib.MathLoose.abs_long.x ∈ FW ∧ Cond.static Lib.MathLoose.abs_long.x ∈ FW ∧ Cond.initialized "java/lang/Math" ∈ FW ∧ Cond.code Lib.MathLoose.abs_long.x Lib.MathLoose.abs_long.code 2 (some .long) ∈ FW) (hR : 1 ≤ R.frames ∧ (rest.map fun v => v.category).sum + 13 ≤ R.locals) (hcs : cells ≤ R.cells ∧ slots ≤ R.slots) (hdg : decode cc pc = .ok (.invokestatic idx, 3))
    (kk : W p l e R s m args below meth c H locs cells slots Q (F0 m (pc + 3) ls (.long (abJ x) :: rest))) : W p l e R s m args below meth c H locs cells slots Q (F0 m pc ls (.long x :: rest)) :=
  va_mabs_long E.1 E.2.1 (E.2.2.1.trans hls.symm) E.2.2.2.1 (E.wd hw.1) (E.wd hw.2.1) (E.wd hw.2.2.1) (E.wd hw.2.2.2) hR.1 hR.2 hcs.1 hcs.2 hdg kk
/-- long compares and the branch behind them -/
theorem r_lc_lt (E : En p m c s cc nL own G A0) {x z : Int64} {off : Int} {tgt : Nat} (d1 : decode cc pc = .ok (.lcmp, 1)) (d2 : decode cc (pc + 1) = .ok (.ifCond .lt off, 3)) (ht : ((pc + 1 : Nat) : Int) + off = (tgt : Int))
    (kt : x < z → W p l e R s m args below meth c H locs cells slots Q (F0 m tgt ls rest)) (kf : ¬ x < z → W p l e R s m args below meth c H locs cells slots Q (F0 m (pc + 4) ls rest)) : W p l e R s m args below meth c H locs cells slots Q (F0 m pc ls (.long z :: .long x :: rest)) :=
  W.lcmp E.1 E.2.1 d1 (lv_if_lt E.1 E.2.1 d2 ht (fun g => kt (cmp_lt.mp g)) (fun g => kf (fun q => g (cmp_lt.mpr q))))
theorem r_lc_gt (E : En p m c s cc nL own G A0) {x z : Int64} {off : Int} {tgt : Nat} (d1 : decode cc pc = .ok (.lcmp, 1)) (d2 : decode cc (pc + 1) = .ok (.ifCond .gt off, 3)) (ht : ((pc + 1 : Nat) : Int) + off = (tgt : Int))
    (kt : z < x → W p l e R s m args below meth c H locs cells slots Q (F0 m tgt ls rest)) (kf : ¬ z < x → W p l e R s m args below meth c H locs cells slots Q (F0 m (pc + 4) ls rest)) : W p l e R s m args below meth c H locs cells slots Q (F0 m pc ls (.long z :: .long x :: rest)) :=
  W.lcmp E.1 E.2.1 d1 (lv_if_gt E.1 E.2.1 d2 ht (fun g => kt (cmp_gt.mp g)) (fun g => kf (fun q => g (cmp_gt.mpr q))))
theorem cmp_ge {x y : Int64} : 0 ≤ lg_cmp x y ↔ ¬ x < y := by
  rw [← cmp_lt, Int32.not_lt]
theorem cmp_le {x y : Int64} : lg_cmp x y ≤ 0 ↔ ¬ y < x := by
  rw [← cmp_gt, Int32.not_lt]
theorem r_lc_ge (E : En p m c s cc nL own G A0) {x z : Int64} {off : Int} {tgt : Nat} (d1 : decode cc pc = .ok (.lcmp, 1)) (d2 : decode cc (pc + 1) = .ok (.ifCond .ge off, 3)) (ht : ((pc + 1 : Nat) : Int) + off = (tgt : Int))
    (kt : ¬ x < z → W p l e R s m args below meth c H locs cells slots Q (F0 m tgt ls rest)) (kf : x < z → W p l e R s m args below meth c H locs cells slots Q (F0 m (pc + 4) ls rest)) : W p l e R s m args below meth c H locs cells slots Q (F0 m pc ls (.long z :: .long x :: rest)) :=
  W.lcmp E.1 E.2.1 d1 (lv_if_ge E.1 E.2.1 d2 ht (fun g => kt (cmp_ge.mp g)) (fun g => kf (Decidable.not_not.mp (fun q => g (cmp_ge.mpr q)))))
theorem r_lc_le (E : En p m c s cc nL own G A0) {x z : Int64} {off : Int} {tgt : Nat} (d1 : decode cc pc = .ok (.lcmp, 1)) (d2 : decode cc (pc + 1) = .ok (.ifCond .le off, 3)) (ht : ((pc + 1 : Nat) : Int) + off = (tgt : Int))
    (kt : ¬ z < x → W p l e R s m args below meth c H locs cells slots Q (F0 m tgt ls rest)) (kf : z < x → W p l e R s m args below meth c H locs cells slots Q (F0 m (pc + 4) ls rest)) : W p l e R s m args below meth c H locs cells slots Q (F0 m pc ls (.long z :: .long x :: rest)) :=
  W.lcmp E.1 E.2.1 d1 (lv_if_le E.1 E.2.1 d2 ht (fun g => kt (cmp_le.mp g)) (fun g => kf (Decidable.not_not.mp (fun q => g (cmp_le.mpr q)))))
theorem r_lc_eq (E : En p m c s cc nL own G A0) {x z : Int64} {off : Int} {tgt : Nat} (d1 : decode cc pc = .ok (.lcmp, 1)) (d2 : decode cc (pc + 1) = .ok (.ifCond .eq off, 3)) (ht : ((pc + 1 : Nat) : Int) + off = (tgt : Int))
    (kt : x = z → W p l e R s m args below meth c H locs cells slots Q (F0 m tgt ls rest)) (kf : ¬ x = z → W p l e R s m args below meth c H locs cells slots Q (F0 m (pc + 4) ls rest)) : W p l e R s m args below meth c H locs cells slots Q (F0 m pc ls (.long z :: .long x :: rest)) :=
  W.lcmp E.1 E.2.1 d1 (lv_if_eq E.1 E.2.1 d2 ht (fun g => kt (cmp_eq.mp g)) (fun g => kf (fun q => g (cmp_eq.mpr q))))
theorem r_lc_ne (E : En p m c s cc nL own G A0) {x z : Int64} {off : Int} {tgt : Nat} (d1 : decode cc pc = .ok (.lcmp, 1)) (d2 : decode cc (pc + 1) = .ok (.ifCond .ne off, 3)) (ht : ((pc + 1 : Nat) : Int) + off = (tgt : Int))
    (kt : ¬ x = z → W p l e R s m args below meth c H locs cells slots Q (F0 m tgt ls rest)) (kf : x = z → W p l e R s m args below meth c H locs cells slots Q (F0 m (pc + 4) ls rest)) : W p l e R s m args below meth c H locs cells slots Q (F0 m pc ls (.long z :: .long x :: rest)) :=
  W.lcmp E.1 E.2.1 d1 (lv_if_ne E.1 E.2.1 d2 ht (fun g => kt (fun q => g (cmp_eq.mpr q))) (fun g => kf (cmp_eq.mp g)))
end CALLS
