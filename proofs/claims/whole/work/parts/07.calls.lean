/-! A METHOD'S START AND END, AND CALLS -/
/-- choices that a method's function makes, and their way back -/
def bnd {α β : Type} (a : α) (f : α → β) : β := f a
theorem bnd_r {α β : Type} {a b : α} {f : α → β} {y : β} (e : b = a) (h : bnd a f = y) : f b = y := by rw [e]; exact h
def obn {α β : Type} (x : Option (α × St)) (f : α → St → Option β) : Option β := match x with
  | some (a, s) => f a s
  | none => none
theorem obn_r {α β : Type} {x : Option (α × St)} {f : α → St → Option β} {y : β} (h : obn x f = some y) : ∃ a s, x = some (a, s) ∧ f a s = some y := by
  match x, h with
  | some (a, s), h => exact ⟨a, s, rfl, h⟩
def obx {α β : Type} (x : Option ((Nat ⊕ α) × St)) (g : Nat → St → Option β) (f : α → St → Option β) : Option β := match x with
  | some (.inr a, s) => f a s
  | some (.inl e, s) => g e s
  | none => none
theorem obx_r {α β : Type} {x : Option ((Nat ⊕ α) × St)} {g : Nat → St → Option β} {f : α → St → Option β} {y : β} (h : obx x g f = some y) : ∃ r s, x = some (r, s) ∧ ((∃ e, r = .inl e ∧ g e s = some y) ∨ ∃ a, r = .inr a ∧ f a s = some y) := by
  match x, h with
  | some (.inr a, s), h => exact ⟨.inr a, s, rfl, Or.inr ⟨a, rfl, h⟩⟩
  | some (.inl e, s), h => exact ⟨.inl e, s, rfl, Or.inl ⟨e, rfl, h⟩⟩
def gd {β : Type} (c : Prop) [Decidable c] (x : Option β) : Option β := if c then x else none
theorem gd_r {β : Type} {c : Prop} [Decidable c] {x : Option β} {y : β} (h : gd c x = some y) : c ∧ x = some y := by
  unfold gd at h
  split at h
  · rename_i hc
    exact ⟨hc, h⟩
  · cases h
theorem some_r {α : Type} {v r : α} {σ τ : St} (h : some (v, σ) = some (r, τ)) : v = r ∧ σ = τ := by cases h; exact ⟨rfl, rfl⟩
def rvI : Nat ⊕ Int32 → Nat ⊕ Option Value
  | .inl e => .inl e
  | .inr v => .inr (some (.int v))
def rvJ : Nat ⊕ Int64 → Nat ⊕ Option Value
  | .inl e => .inl e
  | .inr v => .inr (some (.long v))
def rvV : Nat ⊕ Unit → Nat ⊕ Option Value
  | .inl e => .inl e
  | .inr _ => .inr none
def rvR (b : Nat) : Nat ⊕ Nat → Nat ⊕ Option Value
  | .inl e => .inl e
  | .inr q => .inr (some (.ref (b + q)))
section STARTS
variable {l : Launch} {y : MethodName} {cc : ByteArray} {n : Nat} {ret : Option FieldType} {rm : Room} {G : GP} {sk : Sk} {sz : Nat} {as : List Value} {σ σ0 : St}
theorem mkMet {rv : Option Value} (hy : plainFor y = true) (hn : (lg_sl as).length ≤ n) (hsk : SkOK sk)
    (body : ∀ {p : Program} {e : Env} {s : State} {m : MethodId} {below : List Frame} {meth : Method} {c : Code} {ls : Array Slot}, En p m c s cc n y.cls G (Aw G.2.2.2 sk.1 s.heap.size) → Wo G sk (Aw G.2.2.2 sk.1 s.heap.size) s σ s.heap [] → lv_has ls n (lv_args 0 as) → meth.sig.returnType = ret → meth.locks = false →
      W p l e rm s m as.toArray below meth c s.heap [] 0 0 (MQ below (QO (PoC G sk σ0) (Aw G.2.2.2 sk.1 s.heap.size) rv) as.toArray s 0 0 (Aw G.2.2.2 sk.1 s.heap.size)) (F0 m 0 ls [])) :
    Met l y [.code y cc n ret] rm (va_Pc as (PreC G sk sz σ)) (QO (PoC G sk σ0) (Aw G.2.2.2 sk.1 sz) rv) 0 0 (Aw G.2.2.2 sk.1 sz) := by
  refine MetFree.of_bodySF (code := cc) (maxLocals := n) (ret := ret) hy ?_ ?_
  · intro args s m h hn
    obtain ⟨meth, c, h1, h2, h3, h4, h5, h6, -, -⟩ := Cond.code_spec hn (atoms_spec (ws := [.code y cc n ret]) h _ List.mem_cons_self)
    exact ⟨meth, c, h1, h2, h3, h4, h5, h6⟩
  intro p e s m args below meth c s₁ B hml hv _
  obtain ⟨rfl, hsz, hP, hF⟩ := hv
  subst hsz
  have hh0 : s₁.heap = s.heap := by rw [B.state]; rfl
  suffices k : W p l e rm s m as.toArray below meth c s.heap [] 0 0 (MQ below (QO (PoC G sk σ0) (Aw G.2.2.2 sk.1 s.heap.size) rv) as.toArray s 0 0 (Aw G.2.2.2 sk.1 s.heap.size)) (entryFrame m as.toArray n) by
    obtain ⟨t, a1, o, b1, b2, b3⟩ := k s₁ hh0 (Stand.of_body B)
    exact ⟨t, o, a1, b1, b2, ⟨b3.1, b3.2⟩⟩
  rw [lg_entry_eq]
  exact body ⟨B.exec, B.bytes, hml, findClass_of_methodNamed B.named, hF⟩ ⟨hP, va_S.rf, fun q hq => Or.inl ⟨Nat.le_add_right _ _, by omega⟩, hsk, fun q h => Or.inr h⟩ (lv_entry as hn) B.returns B.notSynchronized
theorem mkMetX {mc ms : Nat} {rv : Nat ⊕ Option Value} (hy : plainName y.cls = true) (hn : (lg_sl as).length ≤ n) (hsk : SkOK sk)
    (body : ∀ {p : Program} {e : Env} {s : State} {m : MethodId} {below : List Frame} {meth : Method} {c : Code} {ls : Array Slot}, En p m c s cc n y.cls G (Aw G.2.2.2 sk.1 s.heap.size) → Wo G sk (Aw G.2.2.2 sk.1 s.heap.size) s σ s.heap [] → lv_has ls n (lv_args 0 as) → meth.sig.returnType = ret → meth.locks = false → (∀ x ∈ c.exceptionTable.toList, False) →
      W p l e rm s m as.toArray below meth c s.heap [] 0 0 (vx_MQ below (QX (PoC G sk σ0) (Aw G.2.2.2 sk.1 s.heap.size) rv) (XX (PoC G sk σ0) (Aw G.2.2.2 sk.1 s.heap.size) rv) as.toArray s mc ms (Aw G.2.2.2 sk.1 s.heap.size)) (F0 m 0 ls [])) :
    vx_Met l y [.code y cc n ret] rm (va_Pc as (PreC G sk sz σ)) (QX (PoC G sk σ0) (Aw G.2.2.2 sk.1 sz) rv) (XX (PoC G sk σ0) (Aw G.2.2.2 sk.1 sz) rv) mc ms (Aw G.2.2.2 sk.1 sz) := by
  refine vx_ofW (cc := cc) (maxL := n) (ret := ret) hy rfl ?_
  intro p e s m args below meth c s₁ B hml ht hv
  obtain ⟨rfl, hsz, hP, hF⟩ := hv
  subst hsz
  rw [lg_entry_eq]
  exact body ⟨B.exec, B.bytes, hml, findClass_of_methodNamed B.named, hF⟩ ⟨hP, va_S.rf, fun q hq => Or.inl ⟨Nat.le_add_right _ _, by omega⟩, hsk, fun q h => Or.inr h⟩ (lv_entry as hn) B.returns B.notSynchronized ht
end STARTS
section ENDS
variable {p : Program} {l : Launch} {e : Env} {R : Room} {s : State} {m : MethodId} {args : Array Value} {below : List Frame} {meth : Method} {c : Code} {H : Heap} {locs : List Loc} {cells slots : Nat} {Q : State → Prop}
variable {cc : ByteArray} {nL : Nat} {own : String} {G : GP} {A0 : Nat → Prop} {sk : Sk} {σ σ0 : St} {pc mc ms : Nat} {ls : Array Slot} {rest : List Value}
theorem Wo.po (hW : Wo G sk A0 s σ H locs) {t : State} (ht : t.heap = H) : PoC G sk σ t := by unfold PoC; rw [ht]; exact hW.1
theorem e_i (E : En p m c s cc nL own G A0) (hW : Wo G sk A0 s σ H locs) (hr : meth.sig.returnType = some .int) (hlk : meth.locks = false) {v r0 : Int32} (h : some (v, σ) = some (r0, σ0)) (hdg : decode cc pc = .ok (.ireturn, 1)) :
    W p l e R s m args below meth c H locs 0 0 (MQ below (QO (PoC G sk σ0) A0 (some (.int r0))) args s 0 0 A0) (F0 m pc ls [.int v]) := by
  cases h
  exact W.iret E.1 E.2.1 hr (fun t ht _ => ⟨⟨rfl, hW.po ht⟩, hW.2.1.F ht⟩) hW.2.1.2.2 hdg hlk
theorem e_z (E : En p m c s cc nL own G A0) (hW : Wo G sk A0 s σ H locs) (hr : meth.sig.returnType = some .boolean) (hlk : meth.locks = false) {v r0 : Int32} (hv : v = 0 ∨ v = 1) (h : some (v, σ) = some (r0, σ0)) (hdg : decode cc pc = .ok (.ireturn, 1)) :
    W p l e R s m args below meth c H locs 0 0 (MQ below (QO (PoC G sk σ0) A0 (some (.int r0))) args s 0 0 A0) (F0 m pc ls [.int v]) := by
  cases h
  exact W.zret E.1 E.2.1 hr (by rcases hv with q | q <;> (rw [q]; decide)) (fun t ht _ => ⟨⟨rfl, hW.po ht⟩, hW.2.1.F ht⟩) hW.2.1.2.2 hdg hlk
theorem e_j (E : En p m c s cc nL own G A0) (hW : Wo G sk A0 s σ H locs) (hr : meth.sig.returnType = some .long) (hlk : meth.locks = false) {v r0 : Int64} (h : some (v, σ) = some (r0, σ0)) (hdg : decode cc pc = .ok (.lreturn, 1)) :
    W p l e R s m args below meth c H locs 0 0 (MQ below (QO (PoC G sk σ0) A0 (some (.long r0))) args s 0 0 A0) (F0 m pc ls [.long v]) := by
  cases h
  exact W.lret E.1 E.2.1 hr (fun t ht _ => ⟨⟨rfl, hW.po ht⟩, hW.2.1.F ht⟩) hW.2.1.2.2 hdg hlk
theorem e_v (E : En p m c s cc nL own G A0) (hW : Wo G sk A0 s σ H locs) (hr : meth.sig.returnType = none) (hlk : meth.locks = false) {r0 : Unit} (h : some ((), σ) = some (r0, σ0)) (hdg : decode cc pc = .ok (.return_, 1)) :
    W p l e R s m args below meth c H locs 0 0 (MQ below (QO (PoC G sk σ0) A0 none) args s 0 0 A0) (F0 m pc ls []) := by
  cases h
  exact W.vret E.1 E.2.1 hr (fun t ht _ => ⟨⟨rfl, hW.po ht⟩, hW.2.1.F ht⟩) hW.2.1.2.2 hdg hlk
theorem x_i (E : En p m c s cc nL own G A0) (hW : Wo G sk A0 s σ H locs) (hr : meth.sig.returnType = some .int) (hlk : meth.locks = false) {v : Int32} {r0 : Nat ⊕ Int32} (h : some (Sum.inr v, σ) = some (r0, σ0)) (hc : cells ≤ mc) (hs : slots ≤ ms) (hdg : decode cc pc = .ok (.ireturn, 1)) :
    W p l e R s m args below meth c H locs cells slots (vx_MQ below (QX (PoC G sk σ0) A0 (rvI r0)) (XX (PoC G sk σ0) A0 (rvI r0)) args s mc ms A0) (F0 m pc ls [.int v]) := by
  cases h
  exact vx_ret (W.widen hc hs (W.iret E.1 E.2.1 hr (fun t ht _ => ⟨⟨⟨_, rfl, rfl⟩, hW.po ht⟩, hW.2.1.F ht⟩) hW.2.1.2.2 hdg hlk))
theorem x_z (E : En p m c s cc nL own G A0) (hW : Wo G sk A0 s σ H locs) (hr : meth.sig.returnType = some .boolean) (hlk : meth.locks = false) {v : Int32} {r0 : Nat ⊕ Int32} (hv : v = 0 ∨ v = 1) (h : some (Sum.inr v, σ) = some (r0, σ0)) (hc : cells ≤ mc) (hs : slots ≤ ms) (hdg : decode cc pc = .ok (.ireturn, 1)) :
    W p l e R s m args below meth c H locs cells slots (vx_MQ below (QX (PoC G sk σ0) A0 (rvI r0)) (XX (PoC G sk σ0) A0 (rvI r0)) args s mc ms A0) (F0 m pc ls [.int v]) := by
  cases h
  exact vx_ret (W.widen hc hs (W.zret E.1 E.2.1 hr (by rcases hv with q | q <;> (rw [q]; decide)) (fun t ht _ => ⟨⟨⟨_, rfl, rfl⟩, hW.po ht⟩, hW.2.1.F ht⟩) hW.2.1.2.2 hdg hlk))
theorem x_v (E : En p m c s cc nL own G A0) (hW : Wo G sk A0 s σ H locs) (hr : meth.sig.returnType = none) (hlk : meth.locks = false) {r0 : Nat ⊕ Unit} (h : some (Sum.inr (), σ) = some (r0, σ0)) (hc : cells ≤ mc) (hs : slots ≤ ms) (hdg : decode cc pc = .ok (.return_, 1)) :
    W p l e R s m args below meth c H locs cells slots (vx_MQ below (QX (PoC G sk σ0) A0 (rvV r0)) (XX (PoC G sk σ0) A0 (rvV r0)) args s mc ms A0) (F0 m pc ls []) := by
  cases h
  exact vx_ret (W.widen hc hs (W.vret E.1 E.2.1 hr (fun t ht _ => ⟨⟨⟨_, rfl, rfl⟩, hW.po ht⟩, hW.2.1.F ht⟩) hW.2.1.2.2 hdg hlk))
theorem x_r (E : En p m c s cc nL own G A0) (hW : Wo G sk A0 s σ H locs) {nm : String} (hr : meth.sig.returnType = some (.object nm)) (hlk : meth.locks = false) {v : Nat} {r0 : Nat ⊕ Nat} (h : some (Sum.inr v, σ) = some (r0, σ0)) (hc : cells ≤ mc) (hs : slots ≤ ms) (hdg : decode cc pc = .ok (.areturn, 1)) :
    W p l e R s m args below meth c H locs cells slots (vx_MQ below (QX (PoC G sk σ0) A0 (rvR G.2.2.2 r0)) (XX (PoC G sk σ0) A0 (rvR G.2.2.2 r0)) args s mc ms A0) (F0 m pc ls [.ref (G.2.2.2 + v)]) := by
  cases h
  exact vx_ret (W.widen hc hs (W.aret E.1 E.2.1 hr (Or.inl ⟨_, rfl⟩) (Or.inr ⟨_, rfl⟩) (fun t ht _ => ⟨⟨⟨_, rfl, rfl⟩, hW.po ht⟩, hW.2.1.F ht⟩) hW.2.1.2.2 hdg hlk))
/-- behind a call -/
theorem c_run {mc1 ms1 : Nat} {free : Addr → Prop} {P : State → Prop} {A1 : Nat → Prop} {rv : Option Value} {a : Array Value} {st0 : List Value} (hr : va_Run p l e R s m args below meth c H locs cells slots mc1 ms1 (F0 m pc ls st0) rest (QO P A1 rv a) free) (hS : va_S A0 s.heap H locs) (hA : ∀ q, A1 q → A0 q) (hf : ∀ q, free q → A0 q)
    (kk : ∀ (t : State) (H1 : Heap) (locs1 : List Loc), t.heap = H1 → P t → va_S A0 s.heap H1 locs1 → W p l e R s m args below meth c H1 locs1 (cells + mc1) (slots + ms1) Q (F0 m (pc + 3) ls (rv.toList ++ rest))) : W p l e R s m args below meth c H locs cells slots Q (F0 m pc ls st0) := by
  intro T hT X
  obtain ⟨v, st₀, t, T', L, h0, X', hL, e1, e2, ⟨⟨hv, hp⟩, hz, hk⟩, st⟩ := hr T hT X
  cases hv
  rw [h0] at hz hk
  obtain ⟨t2, a1, b1⟩ := kk t T'.heap (locs ++ L) e1.symm hp
    ⟨Nat.le_trans hS.1 (by rw [e1]; exact hz), fun q h1 h2 => by rw [e1, hk q (Nat.lt_of_lt_of_le h1 hS.1) (fun z => h2 (hA q z))]; exact hS.2.1 q h1 h2, fun q hq => by
      rcases List.mem_append.mp hq with h | h
      · exact hS.2.2 q h
      · exact hf _ (hL q h)⟩ T' rfl X'
  exact ⟨t2, st t2 a1, b1⟩
theorem c_runX {mc1 ms1 : Nat} {free : Addr → Prop} {P : State → Prop} {A1 : Nat → Prop} {rv : Nat ⊕ Option Value} {a : Array Value} {st0 : List Value} (hr : vx_Run p l e R s m args below meth c H locs cells slots mc1 ms1 (F0 m pc ls st0) rest (QX P A1 rv a) (XX P A1 rv) free) (hS : va_S A0 s.heap H locs) (hA : ∀ q, A1 q → A0 q) (hf : ∀ q, free q → A0 q)
    (kx : ∀ (ex : Nat) (ce : Cell) (q9 : Addr) (t : State) (H1 : Heap) (locs1 : List Loc), rv = .inl ex → t.heap = H1 → P t → va_S A0 s.heap H1 locs1 → H1[q9]? = some ce → ce.vm = .none → s.vm.findClass (exN ex) = some ce.cls → vx_W p l e R s m args below meth c H1 locs1 (cells + mc1) (slots + ms1) Q (F0 m pc ls rest) q9)
    (kk : ∀ (v : Option Value) (t : State) (H1 : Heap) (locs1 : List Loc), rv = .inr v → t.heap = H1 → P t → va_S A0 s.heap H1 locs1 → W p l e R s m args below meth c H1 locs1 (cells + mc1) (slots + ms1) Q (F0 m (pc + 3) ls (v.toList ++ rest))) : W p l e R s m args below meth c H locs cells slots Q (F0 m pc ls st0) := by
  have keep : ∀ {st₀ t T' : State} {L : List Loc}, st₀.heap = H → T'.heap = t.heap → (∀ q ∈ L, free q.base) → va_F A1 st₀ t → va_S A0 s.heap T'.heap (locs ++ L) := by
    intro st₀ t T' L h0 e1 hL hF
    obtain ⟨hz, hk⟩ := hF
    rw [h0] at hz hk
    exact ⟨Nat.le_trans hS.1 (by rw [e1]; exact hz), fun q h1 h2 => by rw [e1, hk q (Nat.lt_of_lt_of_le h1 hS.1) (fun z => h2 (hA q z))]; exact hS.2.1 q h1 h2, fun q hq => by
      rcases List.mem_append.mp hq with h | h
      · exact hS.2.2 q h
      · exact hf _ (hL q h)⟩
  intro T hT X
  rcases hr T hT X with ⟨v, st₀, t, T', L, h0, X', hL, e1, e2, ⟨⟨⟨w, hw, hv⟩, hp⟩, hF⟩, st⟩ | ⟨q, st₀, t, T', L, E9, ce, h0, X', hL, e1, e2, ⟨⟨⟨ex, hw, hE⟩, hp⟩, hF⟩, hce, hcv, hcl, st⟩
  · cases hv
    obtain ⟨t2, a1, b1⟩ := kk v t T'.heap (locs ++ L) hw e1.symm hp (keep h0 e1 hL hF) T' rfl X'
    exact ⟨t2, st t2 a1, b1⟩
  · obtain ⟨t2, a1, b1⟩ := kx ex ce q t T'.heap (locs ++ L) hw e1.symm hp (keep h0 e1 hL hF) (by rw [e1]; exact hce) hcv (by rw [← hE]; exact hcl) T' rfl X'
    exact ⟨t2, st.trans a1, b1⟩
theorem Wo.next (hW : Wo G sk A0 s σ H locs) {σ1 : St} {t : State} {H1 : Heap} {locs1 : List Loc} (ht : t.heap = H1) (hp : PoC G sk σ1 t) (hS : va_S A0 s.heap H1 locs1) : Wo G sk A0 s σ1 H1 locs1 := by
  unfold PoC at hp
  rw [ht] at hp
  exact ⟨hp, hS, hW.2.2⟩
/-- not caught here -/
theorem x_out {q9 : Addr} {ce : Cell} {ex : Nat} {rv : Nat ⊕ Option Value} (hW : Wo G sk A0 s σ H locs) (ht : ∀ x ∈ c.exceptionTable.toList, False) (hlk : meth.locks = false) (hce : H[q9]? = some ce) (hcv : ce.vm = .none) (hcl : s.vm.findClass (exN ex) = some ce.cls) (hrv : rv = .inl ex) (hσ : σ = σ0) (hc : cells ≤ mc) (hs : slots ≤ ms) :
    vx_W p l e R s m args below meth c H locs cells slots (vx_MQ below (QX (PoC G sk σ0) A0 rv) (XX (PoC G sk σ0) A0 rv) args s mc ms A0) (F0 m pc ls rest) q9 := by
  subst hσ
  exact vx_out (fun x hx => absurd hx (fun z => ht x z)) hlk hce hcv hcl (fun t h1 _ => ⟨⟨⟨ex, hrv, rfl⟩, hW.po h1⟩, hW.2.1.F h1⟩) hW.2.1.2.2 hc hs
end ENDS
