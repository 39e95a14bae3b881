/-! CONSTRUCTORS: a world that grows; a reference is null until its flag stands -/
abbrev Sg : Type := Nat × (Nat → Nat → Bool) × St
/-- n new places; the first one's flags are f -/
def nwS (x : Sg) (n : Nat) (f : Bool) : Sg := (x.1 + n, fun q k => if x.1 ≤ q ∧ q < x.1 + n then decide (q = x.1) && f else x.2.1 q k, (fun q k => if x.1 ≤ q ∧ q < x.1 + n then 0 else x.2.2.1 q k, fun q k => if x.1 ≤ q ∧ q < x.1 + n then 0 else x.2.2.2 q k))
def sF (x : Sg) (p k : Nat) : Sg := (x.1, fun q j => if q = p ∧ j = k then true else x.2.1 q j, x.2.2)
def sK (x : Sg) (p k : Nat) (v : Int32) : Sg := (x.1, x.2.1, sI x.2.2 p k v)
def celK (cy : Nat → ClassId) (sk : Sk) (b : Nat) (x : Sg) : va_W := cel cy sk b x.2.1 x.1 x.2.2
def AOk (ty : FieldType) (U : State) : Prop := ∀ a : Array Value, (Cond.arrayOver ty).before a U = true
def AOs (U : State) : Prop := AOk (.object "TaylorModels$Model") U ∧ AOk (.object "TaylorModels$Models") U ∧ AOk (.array .int) U ∧ AOk (.array .long) U
theorem AOk.moved {ty : FieldType} {s U : State} (hv : s.vm.Alike U.vm) (h : AOk ty s) : AOk ty U := by
  intro a
  have h1 := h a
  rw [← Cond.arrayOver_setVmC hv ty] at h1
  exact h1
theorem AOs.moved {s U : State} (hv : s.vm.Alike U.vm) (h : AOs s) : AOs U := ⟨h.1.moved hv, h.2.1.moved hv, h.2.2.1.moved hv, h.2.2.2.moved hv⟩
def WoK (G : GP) (sk : Sk) (A0 : Nat → Prop) (s : State) (x : Sg) (H : Heap) (locs : List Loc) (cells : Nat) : Prop :=
  va_P G.1 vwCl (celK G.2.1 sk G.2.2.2 x) H ∧ va_S A0 s.heap H locs ∧ (∀ q, q < sk.1 → A0 (G.2.2.2 + q)) ∧ (∀ q, s.heap.size ≤ q → A0 q) ∧ H.size = G.2.2.2 + x.1 ∧ x.1 ≤ sk.1 ∧ SkOK sk ∧ s.heap.size + cells = G.2.2.2 + x.1
def PreK (G : GP) (sk : Sk) (sz : Nat) (x : Sg) (U : State) : Prop := U.heap.size = sz ∧ sz = G.2.2.2 + x.1 ∧ x.1 ≤ sk.1 ∧ va_P G.1 vwCl (celK G.2.1 sk G.2.2.2 x) U.heap ∧ Fx G (Aw G.2.2.2 sk.1 sz) U U.heap ∧ AOs U
def PoK (G : GP) (sk : Sk) (x : Sg) (U : State) : Prop := va_P G.1 vwCl (celK G.2.1 sk G.2.2.2 x) U.heap ∧ U.heap.size = G.2.2.2 + x.1 ∧ x.1 ≤ sk.1
theorem celK_nw {cy : Nat → ClassId} {sk : Sk} {b : Nat} {x : Sg} {n : Nat} {f : Bool} : cel cy sk b (nwS x n f).2.1 x.1 (nwS x n f).2.2 = celK cy sk b x :=
  cel_congr (fun q hq => cE_congr (fun k => by simp [nwS, Nat.not_le.mpr hq]) (fun k => by simp [nwS, Nat.not_le.mpr hq]) (fun k => by simp [nwS, Nat.not_le.mpr hq]))
theorem celK_nw1 {cy : Nat → ClassId} {sk : Sk} {b : Nat} {x : Sg} {f : Bool} : celK cy sk b (nwS x 1 f) = celK cy sk b x ++ [(b + x.1, cE cy sk b (nwS x 1 f).2.1 (nwS x 1 f).2.2 x.1)] := by
  have h := celK_nw (cy := cy) (sk := sk) (b := b) (x := x) (n := 1) (f := f)
  unfold celK at h ⊢
  rw [← h]
  exact cel_succ
theorem cel_sF {cy : Nat → ClassId} {sk : Sk} {b : Nat} {x : Sg} {p k : Nat} {e : va_E} (hp : p < x.1) (he : cE cy sk b (sF x p k).2.1 x.2.2 p = e) : (celK cy sk b x).set p (b + p, e) = celK cy sk b (sF x p k) :=
  cel_set hp he (fun q _ hq => cE_congr (fun _ => rfl) (fun _ => rfl) (fun j => by simp [sF, hq]))
theorem PreK.blind {G : GP} {sk : Sk} {sz : Nat} {x : Sg} {as : List Value} : FrameBlind (va_Pc as (PreK G sk sz x)) := by
  rintro a U g mk ⟨h0, h1, h2, h3, h4, h5, h6⟩
  exact ⟨h0, h1, h2, h3, h4, Fx.go (State.WarmedH.refl U) (fun _ _ _ => rfl) (fun _ h => h) h5, AOs.moved (Vm.Alike.refl U.vm) h6⟩
theorem arrV_congr {cA : ClassId} {n : Nat} {f g : Nat → Value} (h : ∀ j, j < n → f j = g j) : arrV cA n f = arrV cA n g := by
  unfold arrV
  congr 1
  exact congrArg Array.ofFn (funext fun j => h j.val j.isLt)
section KROWS
variable {p : Program} {l : Launch} {e : Env} {R : Room} {s : State} {m : MethodId} {args : Array Value} {below : List Frame} {meth : Method} {c : Code} {H : Heap} {locs : List Loc} {cells slots : Nat} {Q : State → Prop}
variable {cc : ByteArray} {nL : Nat} {own : String} {G : GP} {A0 : Nat → Prop} {sk : Sk} {x : Sg} {pc : Nat} {ls : Array Slot} {rest : List Value}
theorem WoK.D (hW : WoK G sk A0 s x H locs cells) : va_D A0 (celK G.2.1 sk G.2.2.2 x) := cel_D (fun q hq => hW.2.2.1 q (Nat.lt_of_lt_of_le hq hW.2.2.2.2.2.1))
theorem WoK.lt (hW : WoK G sk A0 s x H locs cells) {t n : Nat} (hk : sk.2.1 x.1 = (t, n)) (ht : t ≠ 9) : x.1 < sk.1 := hW.2.2.2.2.2.2.1.lt hk ht
/-- behind an allocation of one cell -/
theorem WoK.push (hW : WoK G sk A0 s x H locs cells) {f : Bool} {H1 : Heap} (z1 : H1.size = G.2.2.2 + x.1 + 1) (o1 : ∀ q, q < G.2.2.2 + x.1 → H1[q]? = H[q]?) (hlt : x.1 < sk.1)
    (hc : va_at G.1 vwCl (G.2.2.2 + x.1, cE G.2.1 sk G.2.2.2 (nwS x 1 f).2.1 (nwS x 1 f).2.2 x.1) H1) : WoK G sk A0 s (nwS x 1 f) H1 locs (cells + 1) := by
  obtain ⟨hP, hS, hA, hN, hz, hx, hsk, hcn⟩ := hW
  have o2 : ∀ q, q < H.size → H1[q]? = H[q]? := fun q hq => o1 q (by omega)
  refine ⟨?_, ⟨Nat.le_trans hS.1 (by omega), fun q h1 h2 => (o2 q (Nat.lt_of_lt_of_le h1 hS.1)).trans (hS.2.1 q h1 h2), hS.2.2⟩, hA, hN, z1, hlt, hsk, by show s.heap.size + (cells + 1) = G.2.2.2 + (x.1 + 1); omega⟩
  rw [celK_nw1]
  refine (hP.kept (fun k q hk => o2 q.1 ((hP k q hk).lt))).app (fun k q hk => ?_)
  have hz : k < 1 := (List.getElem?_eq_some_iff.mp hk).1
  rw [show k = 0 by omega] at hk
  cases hk
  exact hc
theorem k_new (E : En p m c s cc nL own G A0) (hW : WoK G sk A0 s x H locs cells) {ci n idx : Nat} {C : String} {T : u_T} {ty : Nat → FieldType} (hk : sk.2.1 x.1 = (0, ci)) (hc : vwCl[ci]? = some (C, T, n)) (hin : ∀ w ∈ u_ws C T n, w ∈ FW) (hty : ∀ k, k < n → parseFieldDescriptor (T k).2.2.1 = some (ty k)) (hn : nF ci = n)
    (hdef : ∀ j, j < n → defaultValue (ty j) = if tgF ci j = 0 then .int 0 else if tgF ci j = 1 then .long 0 else .null) (hl : Cond.classLink own idx C ∈ FW) (hinst : Cond.instantiable C n ∈ FW) (hini : Cond.initialized C ∈ FW) (hcs : cells + 1 ≤ R.cells ∧ slots + n ≤ R.slots) (hdg : decode cc pc = .ok (.new idx, 3))
    (kk : ∀ (x' : Sg) (H1 : Heap), x' = nwS x 1 false → WoK G sk A0 s x' H1 locs (cells + 1) → W p l e R s m args below meth c H1 locs (cells + 1) (slots + n) Q (F0 m (pc + 3) ls (.ref (G.2.2.2 + x.1) :: rest))) : W p l e R s m args below meth c H locs cells slots Q (F0 m pc ls rest) := by
  subst hn
  have hKn := E.2.2.2.2.2.1.1 ci _ hc
  refine W.newcK E.1 E.2.1 E.2.2.2.1 (E.wd hl) (E.wd hinst) (E.wd hini) rfl hdg hcs.1 hcs.2 hKn.2.1 hW.2.2.2.2.1 fun H1 kC hkC e1 z1 o1 => ?_
  refine kk _ H1 rfl (hW.push z1 o1 (hW.lt hk (by decide)) ?_)
  rw [cE_obj hk]
  refine ⟨_, hc, (u_born ty (fun w hw => E.wd (args := args) hw) hin hKn hkC e1 hty).to (fun j hj => ?_)⟩
  rw [hdef j hj]
  simp [vp_V, hj, fV, nwS]
theorem k_newI (E : En p m c s cc nL own G A0) (hW : WoK G sk A0 s x H locs cells) {n : Nat} {v : Int32} (hk : sk.2.1 x.1 = (1, n)) (hv : ¬ v < 0) (hN : v.toNatClampNeg = n) (hby : n * componentBytes .int ≤ 536870912) (hcs : cells + 1 ≤ R.cells ∧ slots + n ≤ R.slots) (hdg : decode cc pc = .ok (.newarray .int, 2))
    (kk : ∀ (x' : Sg) (H1 : Heap), x' = nwS x 1 false → WoK G sk A0 s x' H1 locs (cells + 1) → W p l e R s m args below meth c H1 locs (cells + 1) (slots + n) Q (F0 m (pc + 2) ls (.ref (G.2.2.2 + x.1) :: rest))) : W p l e R s m args below meth c H locs cells slots Q (F0 m pc ls (.int v :: rest)) := by
  refine va_newaK (atype := .int) E.1 E.2.1 (E.2.2.2.2.2.2.1.1 args) rfl hdg rfl hv hN hby hcs.1 hcs.2 hW.2.2.2.2.1 fun H1 cA e1 z1 o1 hAr hNm => ?_
  have hcy : cA = G.2.1 1 := by
    have h := (E.2.2.2.2.2.1.2 0 _ rfl).2
    exact Option.some.inj (hNm.symm.trans h)
  refine kk _ H1 rfl (hW.push z1 o1 (hW.lt hk (by decide)) ?_)
  rw [cE_int hk]
  show H1[G.2.2.2 + x.1]? = some (arrV (G.2.1 1) n (fun j => Value.int ((nwS x 1 false).2.2.1 x.1 j)))
  rw [e1, hcy]
  refine congrArg some (arrV_congr (fun j _ => ?_))
  show Value.int 0 = _
  simp [nwS]
theorem k_newJ (E : En p m c s cc nL own G A0) (hW : WoK G sk A0 s x H locs cells) {n : Nat} {v : Int32} (hk : sk.2.1 x.1 = (2, n)) (hv : ¬ v < 0) (hN : v.toNatClampNeg = n) (hby : n * componentBytes .long ≤ 536870912) (hcs : cells + 1 ≤ R.cells ∧ slots + n ≤ R.slots) (hdg : decode cc pc = .ok (.newarray .long, 2))
    (kk : ∀ (x' : Sg) (H1 : Heap), x' = nwS x 1 false → WoK G sk A0 s x' H1 locs (cells + 1) → W p l e R s m args below meth c H1 locs (cells + 1) (slots + n) Q (F0 m (pc + 2) ls (.ref (G.2.2.2 + x.1) :: rest))) : W p l e R s m args below meth c H locs cells slots Q (F0 m pc ls (.int v :: rest)) := by
  refine va_newaK (atype := .long) E.1 E.2.1 (E.2.2.2.2.2.2.1.2.1 args) rfl hdg rfl hv hN hby hcs.1 hcs.2 hW.2.2.2.2.1 fun H1 cA e1 z1 o1 hAr hNm => ?_
  have hcy : cA = G.2.1 2 := by
    have h := (E.2.2.2.2.2.1.2 1 _ rfl).2
    exact Option.some.inj (hNm.symm.trans h)
  refine kk _ H1 rfl (hW.push z1 o1 (hW.lt hk (by decide)) ?_)
  rw [cE_long hk]
  show H1[G.2.2.2 + x.1]? = some (arrV (G.2.1 2) n (fun j => Value.long ((nwS x 1 false).2.2.2 x.1 j)))
  rw [e1, hcy]
  refine congrArg some (arrV_congr (fun j _ => ?_))
  show Value.long 0 = _
  simp [nwS]
theorem k_newq (E : En p m c s cc nL own G A0) (hAO : AOs s) (hW : WoK G sk A0 s x H locs cells) {t n idx : Nat} {C : String} {v : Int32} (hk : sk.2.1 x.1 = (t + 3, n)) (ht : (t = 0 ∧ C = "TaylorModels$Model") ∨ (t = 1 ∧ C = "TaylorModels$Models")) (hl : Cond.classLink own idx C ∈ FW) (hv : ¬ v < 0) (hN : v.toNatClampNeg = n) (hby : n * 4 ≤ 536870912) (hcs : cells + 1 ≤ R.cells ∧ slots + n ≤ R.slots) (hdg : decode cc pc = .ok (.anewarray idx, 3))
    (kk : ∀ (x' : Sg) (H1 : Heap), x' = nwS x 1 false → WoK G sk A0 s x' H1 locs (cells + 1) → W p l e R s m args below meth c H1 locs (cells + 1) (slots + n) Q (F0 m (pc + 3) ls (.ref (G.2.2.2 + x.1) :: rest))) : W p l e R s m args below meth c H locs cells slots Q (F0 m pc ls (.int v :: rest)) := by
  subst hN
  have hover : (Cond.arrayOver (.object C)).before args s = true := by
    rcases ht with ⟨-, rfl⟩ | ⟨-, rfl⟩
    · exact hAO.1 args
    · exact hAO.2.1 args
  refine W.anew E.1 E.2.1 E.2.2.2.1 (E.wd hl) hover rfl hdg rfl hv hby hcs.1 hcs.2 fun cA kA comp f1 f2 f3 f4 => ?_
  have hcy : cA = G.2.1 (t + 3) := by
    rcases ht with ⟨rfl, rfl⟩ | ⟨rfl, rfl⟩
    · obtain ⟨kA', comp', -, -, -, h⟩ := (E.2.2.2.2.2.1.2 2 _ rfl).2
      exact Option.some.inj (f1.symm.trans h)
    · obtain ⟨kA', comp', -, -, -, h⟩ := (E.2.2.2.2.2.1.2 3 _ rfl).2
      exact Option.some.inj (f1.symm.trans h)
  generalize hH1 : H.push ({ cls := cA, slots := Array.replicate v.toNatClampNeg .null, vm := .none } : Cell) = H1
  have hz := hW.2.2.2.2.1
  have z1 : H1.size = G.2.2.2 + x.1 + 1 := by rw [← hH1, Array.size_push, hz]
  have e1 : H1[G.2.2.2 + x.1]? = some (arrV cA v.toNatClampNeg (fun _ => .null)) := by rw [← hH1, ← hz, Array.getElem?_push_size, ← arrV_new]
  have o1 : ∀ q : Nat, q < G.2.2.2 + x.1 → H1[q]? = H[q]? := fun q hq => by rw [← hH1, Array.getElem?_push, if_neg (by rw [hz]; exact Nat.ne_of_lt hq)]
  rw [hz]
  refine kk _ H1 rfl (hW.push z1 o1 (hW.lt hk (by rcases ht with ⟨rfl, -⟩ | ⟨rfl, -⟩ <;> decide)) ?_)
  rw [cE_ref hk]
  show H1[G.2.2.2 + x.1]? = some (vp_cell _ _)
  rw [e1, hcy, vp_cell_q]
  refine congrArg some (congrArg (arrV _ _) (funext fun j => ?_))
  simp [rE, nwS, va_rf]
theorem k_mna (E : En p m c s cc nL own G A0) (hAO : AOs s) (hW : WoK G sk A0 s x H locs cells) {t n k idx : Nat} {ty : FieldType} {cn : String} {v w : Int32} (hk : sk.2.1 x.1 = (t + 5, n)) (hr : ∀ j, j < n → sk.2.1 (x.1 + 1 + j) = (t + 1, k) ∧ sk.2.2 x.1 j = x.1 + 1 + j) (hlt : x.1 + n < sk.1) (ht : (t = 0 ∧ ty = .int) ∨ (t = 1 ∧ ty = .long)) (hcn : cn = "[" ++ (FieldType.array ty).toString) (hl : Cond.classLink own idx cn ∈ FW)
    (hv : ¬ v < 0) (hw : ¬ w < 0) (hN : v.toNatClampNeg = n) (hM : w.toNatClampNeg = k) (hb1 : n * 4 ≤ 536870912) (hb2 : k * componentBytes ty ≤ 536870912) (hb3 : k ≤ 536870912) (hcs : cells + (1 + n) ≤ R.cells ∧ slots + (n + n * k) ≤ R.slots) (hdg : decode cc pc = .ok (.multianewarray idx 2, 4))
    (kk : ∀ (x' : Sg) (H1 : Heap), x' = nwS x (1 + n) true → WoK G sk A0 s x' H1 locs (cells + 1 + n) → W p l e R s m args below meth c H1 locs (cells + 1 + n) (slots + n + n * k) Q (F0 m (pc + 4) ls (.ref (G.2.2.2 + x.1) :: rest))) : W p l e R s m args below meth c H locs cells slots Q (F0 m pc ls (.int w :: .int v :: rest)) := by
  subst hN
  subst hM
  subst hcn
  have hover : (Cond.arrayOver (.array ty)).before args s = true := by
    rcases ht with ⟨-, rfl⟩ | ⟨-, rfl⟩
    · exact hAO.2.2.1 args
    · exact hAO.2.2.2 args
  have harr : (Cond.arrayClass ty).before args s = true := by
    rcases ht with ⟨-, rfl⟩ | ⟨-, rfl⟩
    · exact E.2.2.2.2.2.2.1.1 args
    · exact E.2.2.2.2.2.2.1.2.1 args
  have hdf : fits ty (defaultValue ty) = true ∧ (defaultValue ty).isDefault = true := by
    rcases ht with ⟨-, rfl⟩ | ⟨-, rfl⟩ <;> exact ⟨rfl, rfl⟩
  have hz := hW.2.2.2.2.1
  intro T hT Xs
  obtain ⟨vm₁, cA, comp, -, fA, fC, hO, -, X', step⟩ := Xs.multianewarray2F E.1 E.2.2.2.1 (E.wd hl) hover harr (g := F0 m pc ls (.int w :: .int v :: rest)) rfl (by rw [E.2.1]; exact hdg) rfl hv hw hb1 hb2 hb3 hdf.1 hdf.2 hcs.1 hcs.2
  have hcy : cA = G.2.1 (t + 5) ∧ comp = G.2.1 (t + 1) := by
    rcases ht with ⟨rfl, rfl⟩ | ⟨rfl, rfl⟩
    · exact ⟨Option.some.inj (fA.symm.trans (E.2.2.2.2.2.1.2 4 _ rfl).2), Option.some.inj (fC.symm.trans (E.2.2.2.2.2.1.2 0 _ rfl).2)⟩
    · exact ⟨Option.some.inj (fA.symm.trans (E.2.2.2.2.2.1.2 5 _ rfl).2), Option.some.inj (fC.symm.trans (E.2.2.2.2.2.1.2 1 _ rfl).2)⟩
  obtain ⟨rfl, rfl⟩ := hcy
  generalize hF : Jvm.Free.Multi.fill (T.setVm vm₁) (G.2.1 (t + 5)) (G.2.1 (t + 1)) v.toNatClampNeg w.toNatClampNeg (defaultValue ty) v.toNatClampNeg = F at X' step
  have hTh : (T.setVm vm₁).heap = H := hT
  obtain ⟨f1, f2, -, -⟩ := Jvm.Free.Multi.fill_facts (T.setVm vm₁) (G.2.1 (t + 5)) (G.2.1 (t + 1)) v.toNatClampNeg w.toNatClampNeg (defaultValue ty) v.toNatClampNeg
  rw [hF, hTh] at f1 f2
  have hold : ∀ q : Nat, q < H.size → F.heap[q]? = H[q]? := fun q hq => by
    have h := Jvm.Free.Multi.fill_old (T.setVm vm₁) (G.2.1 (t + 5)) (G.2.1 (t + 1)) v.toNatClampNeg w.toNatClampNeg (defaultValue ty) (a := q) (by rw [hTh]; exact hq) v.toNatClampNeg
    rw [hF, hTh] at h
    exact h
  have hrow : ∀ j : Nat, j < v.toNatClampNeg → F.heap[H.size + 1 + j]? = some (Jvm.Free.Multi.innerC (G.2.1 (t + 1)) w.toNatClampNeg (defaultValue ty)) := fun j hj => by
    have h := Jvm.Free.Multi.fill_inner (T.setVm vm₁) (G.2.1 (t + 5)) (G.2.1 (t + 1)) v.toNatClampNeg w.toNatClampNeg (defaultValue ty) v.toNatClampNeg j hj
    rw [hF, hTh] at h
    exact h
  have hsize : F.heap.size = H.size + (1 + v.toNatClampNeg) := by
    first | (rw [f1]; omega) | omega
  obtain ⟨hP, hS, hA, hN, -, hx, hsk, hcn9⟩ := hW
  have hP' : va_P G.1 vwCl (celK G.2.1 sk G.2.2.2 (nwS x (1 + v.toNatClampNeg) true)) F.heap := by
    intro k0 q hq
    obtain ⟨hlt0, rfl⟩ := cel_at hq
    have hlt0 : k0 < x.1 + (1 + v.toNatClampNeg) := hlt0
    rcases Nat.lt_or_ge k0 x.1 with h0 | h0
    · have h1 := hP k0 _ (cel_get h0)
      have h2 := h1.kept (hold _ h1.lt)
      have he : cE G.2.1 sk G.2.2.2 (nwS x (1 + v.toNatClampNeg) true).2.1 (nwS x (1 + v.toNatClampNeg) true).2.2 k0 = cE G.2.1 sk G.2.2.2 x.2.1 x.2.2 k0 := cE_congr (fun j => by simp [nwS, Nat.not_le.mpr h0]) (fun j => by simp [nwS, Nat.not_le.mpr h0]) (fun j => by simp [nwS, Nat.not_le.mpr h0])
      rw [he]
      exact h2
    · rcases Nat.eq_or_lt_of_le h0 with h1 | h1
      · subst h1
        rw [cE_ref (t := t + 2) hk]
        show F.heap[G.2.2.2 + x.1]? = some (vp_cell _ _)
        rw [← hz, f2, vr_outer, vp_cell_q]
        refine congrArg some (arrV_congr (fun j hj => ?_))
        have h9 : 0 < 1 + v.toNatClampNeg := by omega
        simp [rE, nwS, hj, (hr j hj).2, hz, Nat.add_assoc, h9]
      · obtain ⟨j, hj, rfl⟩ : ∃ j, j < v.toNatClampNeg ∧ k0 = x.1 + 1 + j := ⟨k0 - x.1 - 1, by omega, by omega⟩
        have hc := hrow j hj
        rw [hz] at hc
        rcases ht with ⟨rfl, rfl⟩ | ⟨rfl, rfl⟩
        · rw [cE_int (hr j hj).1]
          show F.heap[_]? = some (arrV (G.2.1 1) w.toNatClampNeg (fun i => Value.int ((nwS x (1 + v.toNatClampNeg) true).2.2.1 (x.1 + 1 + j) i)))
          rw [show G.2.2.2 + (x.1 + 1 + j) = G.2.2.2 + x.1 + 1 + j by omega, hc]
          unfold Jvm.Free.Multi.innerC
          rw [arrV_new]
          refine congrArg some (arrV_congr (fun i _ => ?_))
          have h8 : x.1 ≤ x.1 + 1 + j ∧ x.1 + 1 + j < x.1 + (1 + v.toNatClampNeg) := by omega
          show Value.int 0 = Value.int (if _ then _ else _)
          rw [if_pos h8]
        · rw [cE_long (hr j hj).1]
          show F.heap[_]? = some (arrV (G.2.1 2) w.toNatClampNeg (fun i => Value.long ((nwS x (1 + v.toNatClampNeg) true).2.2.2 (x.1 + 1 + j) i)))
          rw [show G.2.2.2 + (x.1 + 1 + j) = G.2.2.2 + x.1 + 1 + j by omega, hc]
          unfold Jvm.Free.Multi.innerC
          rw [arrV_new]
          refine congrArg some (arrV_congr (fun i _ => ?_))
          have h8 : x.1 ≤ x.1 + 1 + j ∧ x.1 + 1 + j < x.1 + (1 + v.toNatClampNeg) := by omega
          show Value.long 0 = Value.long (if _ then _ else _)
          rw [if_pos h8]
  obtain ⟨t2, a1, b1⟩ := kk _ F.heap rfl ⟨hP', ⟨Nat.le_trans hS.1 (by omega), fun q h1 h2 => (hold q (Nat.lt_of_lt_of_le h1 hS.1)).trans (hS.2.1 q h1 h2), hS.2.2⟩, hA, hN, by show F.heap.size = G.2.2.2 + (x.1 + (1 + v.toNatClampNeg)); omega, by show x.1 + (1 + v.toNatClampNeg) ≤ sk.1; omega, hsk, by show s.heap.size + (cells + 1 + v.toNatClampNeg) = G.2.2.2 + (x.1 + (1 + v.toNatClampNeg)); omega⟩ F rfl X'
  refine ⟨t2, step t2 ?_, b1⟩
  rw [hT, hz]
  exact a1
end KROWS
def obk {β : Type} (x : Option Sg) (f : Sg → Option β) : Option β := match x with
  | some a => f a
  | none => none
theorem obk_r {β : Type} {x : Option Sg} {f : Sg → Option β} {y : β} (h : obk x f = some y) : ∃ a, x = some a ∧ f a = some y := by
  match x, h with
  | some a, h => exact ⟨a, rfl, h⟩
section KROWS2
variable {p : Program} {l : Launch} {e : Env} {R : Room} {s : State} {m : MethodId} {args : Array Value} {below : List Frame} {meth : Method} {c : Code} {H : Heap} {locs : List Loc} {cells slots : Nat} {Q : State → Prop}
variable {cc : ByteArray} {nL : Nat} {own : String} {G : GP} {A0 : Nat → Prop} {sk : Sk} {x x0 x1 : Sg} {pc : Nat} {ls : Array Slot} {rest st0 As : List Value}
theorem sF_obj {cy : Nat → ClassId} {b q k ci : Nat} (h : sk.2.1 q = (0, ci)) (ht : tgF ci k = 2) : cE cy sk b (sF x q k).2.1 x.2.2 q = .inr (ci, ((List.range (nF ci)).map (fV sk b x.2.1 x.2.2 q ci)).set k (.ref (b + sk.2.2 q k))) := by
  rw [cE_obj h]
  congr 2
  apply List.ext_getElem?
  intro i
  by_cases hi : i < nF ci
  · by_cases hik : i = k
    · subst hik
      rw [List.getElem?_set_self (by simpa using hi)]
      simp [hi, fV, ht, sF]
    · rw [List.getElem?_set_ne (Ne.symm hik)]
      simp [hi, fV, sF, hik]
  · rw [List.getElem?_eq_none (by simpa using Nat.le_of_not_lt hi), List.getElem?_eq_none (by simpa using Nat.le_of_not_lt hi)]
theorem W.size (kk : H.size ≤ s.heap.size + cells → W p l e R s m args below meth c H locs cells slots Q (F0 m pc ls rest)) : W p l e R s m args below meth c H locs cells slots Q (F0 m pc ls rest) := fun T hT X => kk (by rw [← hT]; exact X.same.2.2.1) T hT X
/-- behind a put -/
theorem WoK.put (hW : WoK G sk A0 s x H locs cells) {q : Nat} (hq : q < x.1) {x' : Sg} (hx' : x'.1 = x.1) {H1 : Heap} {locs1 : List Loc} (hP : va_P G.1 vwCl (celK G.2.1 sk G.2.2.2 x') H1) (hS : va_S A0 s.heap H1 locs1) (hz : H1.size ≤ s.heap.size + cells) : WoK G sk A0 s x' H1 locs1 cells := by
  obtain ⟨-, -, hA, hN, hz0, hx, hsk, hcn⟩ := hW
  have h1 : G.2.2.2 + (x.1 - 1) < H1.size := by
    have h := hP (x.1 - 1) _ (cel_get (by rw [hx']; omega))
    exact h.lt
  exact ⟨hP, hS, hA, hN, by rw [hx']; omega, by rw [hx']; exact hx, hsk, by rw [hx']; exact hcn⟩
theorem k_putF (E : En p m c s cc nL own G A0) (hW : WoK G sk A0 s x H locs cells) {q ci k idx n t : Nat} {C : String} {T : u_T} {ty0 : Nat → FieldType} {ref nm ds : String} {ty : FieldType} (hin0 : meth.name = "<init>") (hk : sk.2.1 q = (0, ci)) (hq : q < x.1) (hv : sk.2.2 q k = t) (hc : vwCl[ci]? = some (C, T, n)) (hin : ∀ w ∈ u_ws C T n, w ∈ FW) (hkn : k < n) (hn : nF ci = n) (htg : tgF ci k = 2)
    (hty : ∀ k, k < n → parseFieldDescriptor (T k).2.2.1 = some (ty0 k)) (hnm : ∀ a, a < n → ∀ b, b < n → a ≠ b → (T a).2.1 ≠ (T b).2.1)
    (hT : (T k).1 = ref ∧ (T k).2.1 = nm ∧ (T k).2.2.1 = ds ∧ (T k).2.2.2 = true) (hro : ref = own) (hd : parseFieldDescriptor ds = some ty) (hfit : (∀ a, narrow ty (.ref a) = .ref a) ∧ ∀ a, fits ty (.ref a) = true) (hlink : Cond.fieldLink own idx ref nm ds ∈ FW) (hdg : decode cc pc = .ok (.putfield idx, 3))
    (kk : ∀ (x' : Sg) (H1 : Heap) (locs1 : List Loc), x' = sF x q k → WoK G sk A0 s x' H1 locs1 cells → W p l e R s m args below meth c H1 locs1 cells slots Q (F0 m (pc + 3) ls rest)) : W p l e R s m args below meth c H locs cells slots Q (F0 m pc ls (.ref (G.2.2.2 + t) :: .ref (G.2.2.2 + q) :: rest)) := by
  obtain ⟨h1, h2, h3, h4⟩ := hT
  subst h1; subst h2; subst hn; subst hv
  obtain ⟨hP, hS, hA, hN, hz, hx, hsk, hcn⟩ := id hW
  refine va_putF E.1 E.2.1 (fun w hw => E.wd hw) hin ty0 hty hnm E.2.2.2.1 E.2.2.2.2.2.1 hP hW.D hS q (fs := (List.range (nF ci)).map (fV sk G.2.2.2 x.2.1 x.2.2 q ci)) (by rw [celK, cel_get hq, cE_obj hk]) hc k hkn (by rw [h3]; exact E.wd hlink) (fun x h => h) h4 hin0 hro (ty := ty) (v := .ref (G.2.2.2 + sk.2.2 q k)) (by rw [h3]; exact hd) (hfit.1 _) (hfit.2 _) (by simpa using hkn) hdg (fun H1 locs1 hP1 _ hS1 => W.size (fun hz1 => kk _ _ _ rfl (hW.put (x' := sF x q k) hq rfl ?_ hS1 hz1)))
  rw [cel_sF hq (sF_obj hk htg)] at hP1
  exact hP1
theorem k_putI (E : En p m c s cc nL own G A0) (hW : WoK G sk A0 s x H locs cells) {q ci k idx n : Nat} {C : String} {T : u_T} {ty0 : Nat → FieldType} {ref nm : String} {v : Int32} (hk : sk.2.1 q = (0, ci)) (hq : q < x.1) (hc : vwCl[ci]? = some (C, T, n)) (hin : ∀ w ∈ u_ws C T n, w ∈ FW) (hkn : k < n) (hn : nF ci = n) (htg : tgF ci k = 0)
    (hty : ∀ k, k < n → parseFieldDescriptor (T k).2.2.1 = some (ty0 k)) (hnm : ∀ a, a < n → ∀ b, b < n → a ≠ b → (T a).2.1 ≠ (T b).2.1)
    (hT : (T k).1 = ref ∧ (T k).2.1 = nm ∧ (T k).2.2.1 = "I" ∧ (T k).2.2.2 = false) (hlink : Cond.fieldLink own idx ref nm "I" ∈ FW) (hdg : decode cc pc = .ok (.putfield idx, 3))
    (kk : ∀ (x' : Sg) (H1 : Heap) (locs1 : List Loc), x' = sK x q k v → WoK G sk A0 s x' H1 locs1 cells → W p l e R s m args below meth c H1 locs1 cells slots Q (F0 m (pc + 3) ls rest)) : W p l e R s m args below meth c H locs cells slots Q (F0 m pc ls (.int v :: .ref (G.2.2.2 + q) :: rest)) := by
  obtain ⟨h1, h2, h3, h4⟩ := hT
  subst h1; subst h2; subst hn
  obtain ⟨hP, hS, hA, hN, hz, hx, hsk, hcn⟩ := id hW
  refine va_put E.1 E.2.1 (fun w hw => E.wd hw) hin ty0 hty hnm E.2.2.2.1 E.2.2.2.2.2.1 hP hW.D hS q (fs := (List.range (nF ci)).map (fV sk G.2.2.2 x.2.1 x.2.2 q ci)) (by rw [celK, cel_get hq, cE_obj hk]) hc k hkn (by rw [h3]; exact E.wd hlink) (fun x h => h) h4 (ty := .int) (v := .int v) (by rw [h3]; decide +kernel) rfl rfl (by simpa using hkn) hdg (fun H1 locs1 hP1 _ hS1 => W.size (fun hz1 => kk _ _ _ rfl (hW.put (x' := sK x q k v) hq rfl ?_ hS1 hz1)))
  rw [← sI_objset hk htg (cy := G.2.1) (fl := x.2.1), celK, cel_set hq rfl (fun y _ hy => sI_other hy)] at hP1
  exact hP1
theorem k_get (E : En p m c s cc nL own G A0) (hW : WoK G sk A0 s x H locs cells) {q ci k idx n : Nat} {C : String} {T : u_T} {ref nm ds : String} (hk : sk.2.1 q = (0, ci)) (hq : q < x.1) (hfl : x.2.1 q k = true) (hc : vwCl[ci]? = some (C, T, n)) (hin : ∀ w ∈ u_ws C T n, w ∈ FW) (hkn : k < n) (hn : nF ci = n) (htg : tgF ci k = 2)
    (hT : (T k).1 = ref ∧ (T k).2.1 = nm ∧ (T k).2.2.1 = ds) (hlink : Cond.fieldLink own idx ref nm ds ∈ FW) (hdg : decode cc pc = .ok (.getfield idx, 3))
    (kk : W p l e R s m args below meth c H locs cells slots Q (F0 m (pc + 3) ls (.ref (G.2.2.2 + sk.2.2 q k) :: rest))) : W p l e R s m args below meth c H locs cells slots Q (F0 m pc ls (.ref (G.2.2.2 + q) :: rest)) := by
  obtain ⟨h1, h2, h3⟩ := hT
  subst h1; subst h2; subst h3; subst hn
  exact va_get E.1 E.2.1 (fun w hw => E.wd hw) hin E.2.2.2.1 E.2.2.2.2.2.1 hW.1 q (fs := (List.range (nF ci)).map (fV sk G.2.2.2 x.2.1 x.2.2 q ci)) (by rw [celK, cel_get hq, cE_obj hk]) hc k hkn (E.wd hlink) (fun x h => h) (by simp [hkn, fV, htg, hfl]) hdg kk
theorem k_aast (E : En p m c s cc nL own G A0) (hW : WoK G sk A0 s x H locs cells) {q t n v ci : Nat} {r : vw_C} {i : Int32} (hk : sk.2.1 q = (t + 3, n)) (hq : q < x.1) (hi : vp_in i n) (hv : sk.2.2 q i.toNatClampNeg = v) (hkv : sk.2.1 v = (0, ci)) (hlv : v < x.1) (hc : vwCl[ci]? = some r) (ht : (tyG G.2.1)[t + 2]? = some (G.2.1 (t + 3), .object r.1)) (hdg : decode cc pc = .ok (.aastore, 1))
    (kk : ∀ (x' : Sg) (H1 : Heap) (locs1 : List Loc), x' = sF x q i.toNatClampNeg → WoK G sk A0 s x' H1 locs1 cells → W p l e R s m args below meth c H1 locs1 cells slots Q (F0 m (pc + 1) ls rest)) : W p l e R s m args below meth c H locs cells slots Q (F0 m pc ls (.ref (G.2.2.2 + v) :: .int i :: .ref (G.2.2.2 + q) :: rest)) := by
  obtain ⟨hP, hS, hA, hN, hz, hx, hsk, hcn⟩ := id hW
  refine va_astq E.1 E.2.1 E.2.2.2.2.2.1 hP hW.D hS q (t + 2) v ci (by rw [celK, cel_get hq, cE_ref hk]) ht (by rw [celK, cel_get hlv, cE_obj hkv]) hc hi hdg (fun H1 locs1 hP1 _ hS1 => W.size (fun hz1 => kk _ _ _ rfl (hW.put (x' := sF x q i.toNatClampNeg) hq rfl ?_ hS1 hz1)))
  have he : cE G.2.1 sk G.2.2.2 (sF x q i.toNatClampNeg).2.1 x.2.2 q = .inl (G.2.1 (t + 3), n, .inr (.inr (.inr (.inr (va_up (rE sk G.2.2.2 x.2.1 q) i.toNatClampNeg (some (G.2.2.2 + v))))))) := by
    rw [cE_ref hk]
    refine congrArg (fun f : Nat → Option Nat => (Sum.inl (G.2.1 (t + 3), n, Sum.inr (Sum.inr (Sum.inr (Sum.inr f)))) : va_E)) (funext fun j => ?_)
    by_cases hj : j = i.toNatClampNeg
    · subst hj
      simp [rE, sF, va_up, hv]
    · simp [rE, sF, va_up, hj]
  rw [cel_sF hq he] at hP1
  exact hP1
theorem k_obj (E : En p m c s cc nL own G A0) (hls : ls.size = nL) {a idx : Nat} (h1 : Cond.methodLink own idx Lib.objectInit ∈ FW) (h2 : Cond.instanceMethod Lib.objectInit ∈ FW) (h3 : Cond.code Lib.objectInit ⟨#[0xb1]⟩ 1 none ∈ FW) (hR : 1 ≤ R.frames ∧ (rest.map fun v => v.category).sum + 12 ≤ R.locals) (hdg : decode cc pc = .ok (.invokespecial idx, 3))
    (kk : W p l e R s m args below meth c H locs cells slots Q (F0 m (pc + 3) ls rest)) : W p l e R s m args below meth c H locs cells slots Q (F0 m pc ls (.ref a :: rest)) :=
  W.objInit E.1 E.2.1 E.2.2.2.1 (E.wd h1) (E.wd h2) (E.wd h3) rfl (hls.trans E.2.2.1.symm) rfl hdg hR.1 (by show 2 * 0 + _ + 12 ≤ _; rw [Nat.mul_zero, Nat.zero_add]; exact hR.2) kk
theorem PreK.of (hF : Fx G A0 s s.heap) (hAO : AOs s) (hW : WoK G sk A0 s x H locs cells) {U : State} (hU : U.heap = H) (hV : s.WarmedH U.vm) : PreK G sk H.size x U := by
  obtain ⟨hP, hS, hA, hN, hz, hx, hsk, hcn⟩ := hW
  refine ⟨by rw [hU], hz, hx, by rw [hU]; exact hP, ?_, hAO.moved hV.alike⟩
  rw [hU]
  refine Fx.go hV (fun a h1 h2 => hS.2.1 a h1 h2) (fun q h => ?_) hF
  rcases h with ⟨h1, h2⟩ | h
  · have := hA (q - G.2.2.2) (by omega)
    rwa [Nat.add_sub_cancel' h1] at this
  · exact hN q (Nat.le_trans hS.1 h)
theorem WoK.aw (hW : WoK G sk A0 s x H locs cells) : ∀ q, Aw G.2.2.2 sk.1 H.size q → A0 q := by
  obtain ⟨-, hS, hA, hN, -⟩ := hW
  rintro q (⟨h1, h2⟩ | h)
  · have := hA (q - G.2.2.2) (by omega)
    rwa [Nat.add_sub_cancel' h1] at this
  · exact hN q (Nat.le_trans hS.1 h)
theorem WoK.next (hW : WoK G sk A0 s x H locs cells) {mc1 : Nat} {t : State} {H1 : Heap} {locs1 : List Loc} (ht : t.heap = H1) (hp : PoK G sk x1 t) (hS : va_S A0 s.heap H1 locs1) (hmc : x.1 + mc1 = x1.1) : WoK G sk A0 s x1 H1 locs1 (cells + mc1) := by
  obtain ⟨h1, h2, h3⟩ := hp
  rw [ht] at h1 h2
  obtain ⟨-, -, hA, hN, -, -, hsk, hcn⟩ := hW
  exact ⟨h1, hS, hA, hN, h2, h3, hsk, by omega⟩
variable {q ci idx maxL k9 : Nat} {T9 : u_T} {y : MethodName} {cc' : ByteArray} {rm : Room} {host : String} {mc1 ms1 : Nat}
def wI (y : MethodName) (cc' : ByteArray) (maxL : Nat) : Prop := y.name = "<init>" ∧ Cond.instanceMethod y ∈ FW ∧ Cond.initialized y.cls ∈ FW ∧ Cond.code y cc' maxL none ∈ FW
theorem k_I (E : En p m c s cc nL own G A0) (hAO : AOs s) (hW : WoK G sk A0 s x H locs cells)
    (hM : Met l y [.code y cc' maxL none] rm (va_Pc [.ref (G.2.2.2 + q)] (PreK G sk H.size x)) (QO (PoK G sk x1) (Aw G.2.2.2 sk.1 H.size) none) mc1 ms1 (Aw G.2.2.2 sk.1 H.size)) (hmc : x.1 + mc1 = x1.1)
    (hl : Cond.methodLink own idx y ∈ FW) (hw : wI y cc' maxL) (hy : yOK y 0) (hrm : rm.cells = mc1 ∧ rm.slots = ms1) (hR : rm.frames + 1 ≤ R.frames ∧ 8 + (maxL + 11) + rm.locals ≤ R.locals) (hls : ls.size = nL) (hst : (rest.map fun v => v.category).sum ≤ 8) (hcs : cells + mc1 ≤ R.cells ∧ slots + ms1 ≤ R.slots) (hdg : decode cc pc = .ok (.invokespecial idx, 3))
    (kk : ∀ (H1 : Heap) (locs1 : List Loc), WoK G sk A0 s x1 H1 locs1 (cells + mc1) → W p l e R s m args below meth c H1 locs1 (cells + mc1) (slots + ms1) Q (F0 m (pc + 3) ls rest)) : W p l e R s m args below meth c H locs cells slots Q (F0 m pc ls (.ref (G.2.2.2 + q) :: rest)) := by
  have hcode := E.wd (args := args) hw.2.2.2
  exact c_run (rv := none) (va_runI (Ts := FW) (As := []) ⟨E.1, E.2.1, E.2.2.1, E.2.2.2.1, fun w h => E.wd h⟩ hM ⟨⟨hrm.1, hrm.2, hR.1, hR.2, code_ws hcode, List.mem_singleton.mpr rfl, hcode, E.wd hw.2.2.1, hy.1, len_of hy.2, E.wd hl⟩, hw.1, E.wd hw.2.1⟩ ⟨PreK.blind, fun U hU hV => ⟨rfl, PreK.of E.2.2.2.2 hAO hW hU hV⟩⟩ rfl rfl hls rfl (lv_room hst) hdg hcs) hW.2.1 hW.aw hW.aw (fun t H1 locs1 ht hp hS => kk H1 locs1 (hW.next ht hp hS hmc))
theorem k_IN (E : En p m c s cc nL own G A0) (hAO : AOs s) (hW : WoK G sk A0 s x H locs cells)
    (hM : Met l y [.code y cc' maxL none] rm (va_Pc [.ref (G.2.2.2 + q)] (PreK G sk H.size x)) (QO (PoK G sk x1) (Aw G.2.2.2 sk.1 H.size) none) mc1 ms1 (Aw G.2.2.2 sk.1 H.size)) (hmc : x.1 + mc1 = x1.1)
    (hl : Cond.methodLinkNest own idx y host ∈ FW) (hw : wI y cc' maxL) (hy : yOK y 0) (hrm : rm.cells = mc1 ∧ rm.slots = ms1) (hR : rm.frames + 1 ≤ R.frames ∧ 8 + (maxL + 11) + rm.locals ≤ R.locals) (hls : ls.size = nL) (hst : (rest.map fun v => v.category).sum ≤ 8) (hcs : cells + mc1 ≤ R.cells ∧ slots + ms1 ≤ R.slots) (hdg : decode cc pc = .ok (.invokespecial idx, 3))
    (kk : ∀ (H1 : Heap) (locs1 : List Loc), WoK G sk A0 s x1 H1 locs1 (cells + mc1) → W p l e R s m args below meth c H1 locs1 (cells + mc1) (slots + ms1) Q (F0 m (pc + 3) ls rest)) : W p l e R s m args below meth c H locs cells slots Q (F0 m pc ls (.ref (G.2.2.2 + q) :: rest)) := by
  have hcode := E.wd (args := args) hw.2.2.2
  exact c_run (rv := none) (va_runIN (Ts := FW) (As := []) ⟨E.1, E.2.1, E.2.2.1, E.2.2.2.1, fun w h => E.wd h⟩ hM ⟨⟨⟨hrm.1, hrm.2, hR.1, hR.2, code_ws hcode, List.mem_singleton.mpr rfl⟩, hcode, E.wd hw.2.2.1, hy.1, len_of hy.2, E.wd hl⟩, hw.1, E.wd hw.2.1⟩ ⟨PreK.blind, fun U hU hV => ⟨rfl, PreK.of E.2.2.2.2 hAO hW hU hV⟩⟩ rfl rfl hls rfl (lv_room hst) hdg hcs) hW.2.1 hW.aw hW.aw (fun t H1 locs1 ht hp hS => kk H1 locs1 (hW.next ht hp hS hmc))
theorem k_ret (E : En p m c s cc nL own G A0) (hW : WoK G sk A0 s x H locs cells) (hr : meth.sig.returnType = none) (hlk : meth.locks = false) (h : some x = some x0) {mc ms : Nat} (hc : cells ≤ mc) (hs : slots ≤ ms) (hdg : decode cc pc = .ok (.return_, 1)) :
    W p l e R s m args below meth c H locs cells slots (MQ below (QO (PoK G sk x0) A0 none) args s mc ms A0) (F0 m pc ls []) := by
  cases h
  exact W.widen hc hs (W.vret E.1 E.2.1 hr (fun t ht _ => ⟨⟨rfl, by unfold PoK; rw [ht]; exact ⟨hW.1, hW.2.2.2.2.1, hW.2.2.2.2.2.1⟩⟩, hW.2.1.F ht⟩) hW.2.1.2.2 hdg hlk)
end KROWS2
theorem mkMetK {l : Launch} {y : MethodName} {cc : ByteArray} {n : Nat} {rm : Room} {G : GP} {sk : Sk} {sz q : Nat} {x x0 : Sg} {mc ms : Nat} (hy : plainFor y = true) (hn : (lg_sl [Value.ref (G.2.2.2 + q)]).length ≤ n) (hsk : SkOK sk)
    (body : ∀ {p : Program} {e : Env} {s : State} {m : MethodId} {below : List Frame} {meth : Method} {c : Code} {ls : Array Slot}, En p m c s cc n y.cls G (Aw G.2.2.2 sk.1 s.heap.size) → AOs s → WoK G sk (Aw G.2.2.2 sk.1 s.heap.size) s x s.heap [] 0 → lv_has ls n (lv_args 0 [Value.ref (G.2.2.2 + q)]) → meth.sig.returnType = none → meth.locks = false → meth.name = y.name →
      W p l e rm s m [Value.ref (G.2.2.2 + q)].toArray below meth c s.heap [] 0 0 (MQ below (QO (PoK G sk x0) (Aw G.2.2.2 sk.1 s.heap.size) none) [Value.ref (G.2.2.2 + q)].toArray s mc ms (Aw G.2.2.2 sk.1 s.heap.size)) (F0 m 0 ls [])) :
    Met l y [.code y cc n none] rm (va_Pc [Value.ref (G.2.2.2 + q)] (PreK G sk sz x)) (QO (PoK G sk x0) (Aw G.2.2.2 sk.1 sz) none) mc ms (Aw G.2.2.2 sk.1 sz) := by
  refine MetFree.of_bodySF (code := cc) (maxLocals := n) (ret := none) hy ?_ ?_
  · intro args s m h hn
    obtain ⟨meth, c, h1, h2, h3, h4, h5, h6, -, -⟩ := Cond.code_spec hn (atoms_spec (ws := [.code y cc n none]) h _ List.mem_cons_self)
    exact ⟨meth, c, h1, h2, h3, h4, h5, h6⟩
  intro p e s m args below meth c s₁ B hml hv _
  obtain ⟨rfl, hsz, hcn, hx, hP, hF, hAO⟩ := hv
  subst hsz
  have hh0 : s₁.heap = s.heap := by rw [B.state]; rfl
  suffices k : W p l e rm s m [Value.ref (G.2.2.2 + q)].toArray below meth c s.heap [] 0 0 (MQ below (QO (PoK G sk x0) (Aw G.2.2.2 sk.1 s.heap.size) none) [Value.ref (G.2.2.2 + q)].toArray s mc ms (Aw G.2.2.2 sk.1 s.heap.size)) (entryFrame m [Value.ref (G.2.2.2 + q)].toArray n) by
    obtain ⟨t, a1, o, b1, b2, b3⟩ := k s₁ hh0 (Stand.of_body B)
    exact ⟨t, o, a1, b1, b2, ⟨b3.1, b3.2⟩⟩
  rw [lg_entry_eq]
  exact body ⟨B.exec, B.bytes, hml, findClass_of_methodNamed B.named, hF⟩ hAO ⟨hP, va_S.rf, fun q hq => Or.inl ⟨Nat.le_add_right _ _, by omega⟩, fun q h => Or.inr h, hcn, hx, hsk, hcn⟩ (lv_entry _ hn) B.returns B.notSynchronized (name_of_methodNamed B.named B.method).1
