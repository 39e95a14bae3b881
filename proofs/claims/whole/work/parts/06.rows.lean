/-! ROWS: an instruction over the store -/
section ROWS
variable {p : Program} {l : Launch} {e : Env} {R : Room} {s : State} {m : MethodId} {args : Array Value} {below : List Frame} {meth : Method} {c : Code} {H : Heap} {locs : List Loc} {cells slots : Nat} {Q : State → Prop}
variable {cc : ByteArray} {nL : Nat} {own : String} {G : GP} {A0 : Nat → Prop} {sk : Sk} {σ : St} {pc : Nat} {ls : Array Slot} {rest : List Value}
theorem En.wd (E : En p m c s cc nL own G A0) {w : Cond} (h : w ∈ FW) : w.before args s = true := E.2.2.2.2.1 w h args
theorem r_get (E : En p m c s cc nL own G A0) (hW : Wo G sk A0 s σ H locs) {q ci k idx n : Nat} {C : String} {T : u_T} {ref nm ds : String} (hk : sk.2.1 q = (0, ci)) (hc : vwCl[ci]? = some (C, T, n)) (hin : ∀ w ∈ u_ws C T n, w ∈ FW) (hkn : k < n) (hn : nF ci = n)
    (hT : (T k).1 = ref ∧ (T k).2.1 = nm ∧ (T k).2.2.1 = ds) (hlink : Cond.fieldLink own idx ref nm ds ∈ FW) (hdg : decode cc pc = .ok (.getfield idx, 3))
    (kk : W p l e R s m args below meth c H locs cells slots Q (F0 m (pc + 3) ls (fV sk G.2.2.2 yes σ q ci k :: rest))) : W p l e R s m args below meth c H locs cells slots Q (F0 m pc ls (.ref (G.2.2.2 + q) :: rest)) := by
  obtain ⟨h1, h2, h3⟩ := hT
  subst h1; subst h2; subst h3; subst hn
  refine va_get E.1 E.2.1 (fun w hw => E.wd hw) hin E.2.2.2.1 E.2.2.2.2.2.1 hW.1 q (fs := (List.range (nF ci)).map (fV sk G.2.2.2 yes σ q ci)) (by rw [cel_get (hW.2.2.2.1.lt hk (by decide)), cE_obj hk]) hc k hkn (E.wd hlink) (fun x h => h) (by simp [hkn]) hdg kk
theorem r_putI (E : En p m c s cc nL own G A0) (hW : Wo G sk A0 s σ H locs) {q ci k idx n : Nat} {C : String} {T : u_T} {ty0 : Nat → FieldType} {ref nm : String} {v : Int32} (hk : sk.2.1 q = (0, ci)) (hc : vwCl[ci]? = some (C, T, n)) (hin : ∀ w ∈ u_ws C T n, w ∈ FW) (hkn : k < n) (hn : nF ci = n) (htg : tgF ci k = 0)
    (hty : ∀ k, k < n → parseFieldDescriptor (T k).2.2.1 = some (ty0 k)) (hnm : ∀ a, a < n → ∀ b, b < n → a ≠ b → (T a).2.1 ≠ (T b).2.1)
    (hT : (T k).1 = ref ∧ (T k).2.1 = nm ∧ (T k).2.2.1 = "I" ∧ (T k).2.2.2 = false) (hlink : Cond.fieldLink own idx ref nm "I" ∈ FW) (hdg : decode cc pc = .ok (.putfield idx, 3))
    (kk : ∀ (σ' : St) (H1 : Heap) (locs1 : List Loc), σ' = sI σ q k v → Wo G sk A0 s σ' H1 locs1 → W p l e R s m args below meth c H1 locs1 cells slots Q (F0 m (pc + 3) ls rest)) : W p l e R s m args below meth c H locs cells slots Q (F0 m pc ls (.int v :: .ref (G.2.2.2 + q) :: rest)) := by
  obtain ⟨h1, h2, h3, h4⟩ := hT
  subst h1; subst h2; subst hn
  obtain ⟨hP, hS, hA, hsk, hN⟩ := hW
  have hq := hsk.lt hk (by decide)
  refine va_put E.1 E.2.1 (fun w hw => E.wd hw) hin ty0 hty hnm E.2.2.2.1 E.2.2.2.2.2.1 hP (cel_D hA) hS q (fs := (List.range (nF ci)).map (fV sk G.2.2.2 yes σ q ci)) (by rw [cel_get hq, cE_obj hk]) hc k hkn (by rw [h3]; exact E.wd hlink) (fun x h => h) h4 (ty := .int) (v := .int v) (by rw [h3]; decide +kernel) rfl rfl (by simpa using hkn) hdg (fun H1 locs1 hP1 _ hS1 => kk _ _ _ rfl ⟨?_, hS1, hA, hsk, hN⟩)
  rw [← sI_objset hk htg (cy := G.2.1) (fl := yes), cel_set hq rfl (fun x _ hx => sI_other hx)] at hP1
  exact hP1
theorem r_putJ (E : En p m c s cc nL own G A0) (hW : Wo G sk A0 s σ H locs) {q ci k idx n : Nat} {C : String} {T : u_T} {ty0 : Nat → FieldType} {ref nm : String} {v : Int64} (hk : sk.2.1 q = (0, ci)) (hc : vwCl[ci]? = some (C, T, n)) (hin : ∀ w ∈ u_ws C T n, w ∈ FW) (hkn : k < n) (hn : nF ci = n) (htg : tgF ci k = 1)
    (hty : ∀ k, k < n → parseFieldDescriptor (T k).2.2.1 = some (ty0 k)) (hnm : ∀ a, a < n → ∀ b, b < n → a ≠ b → (T a).2.1 ≠ (T b).2.1)
    (hT : (T k).1 = ref ∧ (T k).2.1 = nm ∧ (T k).2.2.1 = "J" ∧ (T k).2.2.2 = false) (hlink : Cond.fieldLink own idx ref nm "J" ∈ FW) (hdg : decode cc pc = .ok (.putfield idx, 3))
    (kk : ∀ (σ' : St) (H1 : Heap) (locs1 : List Loc), σ' = sJ σ q k v → Wo G sk A0 s σ' H1 locs1 → W p l e R s m args below meth c H1 locs1 cells slots Q (F0 m (pc + 3) ls rest)) : W p l e R s m args below meth c H locs cells slots Q (F0 m pc ls (.long v :: .ref (G.2.2.2 + q) :: rest)) := by
  obtain ⟨h1, h2, h3, h4⟩ := hT
  subst h1; subst h2; subst hn
  obtain ⟨hP, hS, hA, hsk, hN⟩ := hW
  have hq := hsk.lt hk (by decide)
  refine va_put E.1 E.2.1 (fun w hw => E.wd hw) hin ty0 hty hnm E.2.2.2.1 E.2.2.2.2.2.1 hP (cel_D hA) hS q (fs := (List.range (nF ci)).map (fV sk G.2.2.2 yes σ q ci)) (by rw [cel_get hq, cE_obj hk]) hc k hkn (by rw [h3]; exact E.wd hlink) (fun x h => h) h4 (ty := .long) (v := .long v) (by rw [h3]; decide +kernel) rfl rfl (by simpa using hkn) hdg (fun H1 locs1 hP1 _ hS1 => kk _ _ _ rfl ⟨?_, hS1, hA, hsk, hN⟩)
  rw [← sJ_objset hk htg (cy := G.2.1) (fl := yes), cel_set hq rfl (fun x _ hx => sJ_other hx)] at hP1
  exact hP1
theorem r_iald (E : En p m c s cc nL own G A0) (hW : Wo G sk A0 s σ H locs) {q n : Nat} {i : Int32} (hk : sk.2.1 q = (1, n)) (hi : vp_in i n) (hdg : decode cc pc = .ok (.iaload, 1))
    (kk : W p l e R s m args below meth c H locs cells slots Q (F0 m (pc + 1) ls (.int (σ.1 q i.toNatClampNeg) :: rest))) : W p l e R s m args below meth c H locs cells slots Q (F0 m pc ls (.int i :: .ref (G.2.2.2 + q) :: rest)) :=
  va_iald E.1 E.2.1 E.2.2.2.2.2.1 hW.1 q 0 (by rw [cel_get (hW.2.2.2.1.lt hk (by decide)), cE_int hk]) rfl hi hdg kk
theorem r_lald (E : En p m c s cc nL own G A0) (hW : Wo G sk A0 s σ H locs) {q n : Nat} {i : Int32} (hk : sk.2.1 q = (2, n)) (hi : vp_in i n) (hdg : decode cc pc = .ok (.laload, 1))
    (kk : W p l e R s m args below meth c H locs cells slots Q (F0 m (pc + 1) ls (.long (σ.2 q i.toNatClampNeg) :: rest))) : W p l e R s m args below meth c H locs cells slots Q (F0 m pc ls (.int i :: .ref (G.2.2.2 + q) :: rest)) :=
  va_lald E.1 E.2.1 E.2.2.2.2.2.1 hW.1 q 1 (by rw [cel_get (hW.2.2.2.1.lt hk (by decide)), cE_long hk]) rfl hi hdg kk
theorem r_aald (E : En p m c s cc nL own G A0) (hW : Wo G sk A0 s σ H locs) {q t n : Nat} {ty : FieldType} {i : Int32} (hk : sk.2.1 q = (t + 3, n)) (hi : vp_in i n) (ht : (tyG G.2.1)[t + 2]? = some (G.2.1 (t + 3), ty)) (hty : ty.isReference = true) (hne : t < 6) (hdg : decode cc pc = .ok (.aaload, 1))
    (kk : W p l e R s m args below meth c H locs cells slots Q (F0 m (pc + 1) ls (.ref (G.2.2.2 + sk.2.2 q i.toNatClampNeg) :: rest))) : W p l e R s m args below meth c H locs cells slots Q (F0 m pc ls (.int i :: .ref (G.2.2.2 + q) :: rest)) := by
  have hlt : i.toNatClampNeg < n := Nat.not_le.mp fun x => hi (Or.inr x)
  have h := hW.1 q _ (cel_get (hW.2.2.2.1.lt hk (by omega)))
  rw [cE_ref hk] at h
  exact W.aald (v := va_rf (rE sk G.2.2.2 yes q i.toNatClampNeg)) (ty := ty) E.1 E.2.1 h ((E.2.2.2.2.2.1.2 (t + 2) _ ht).1 n (fun j => va_rf (rE sk G.2.2.2 yes q j))) hty (fun x => by cases x) (by show ¬ (i < 0 ∨ (arrV _ _ _).slots.size ≤ _); rw [arrV_size]; exact hi) (by show (arrV _ _ _).slots[_]? = _; rw [arrV_read _ _ hlt]) rfl rfl hdg kk
theorem r_iast (E : En p m c s cc nL own G A0) (hW : Wo G sk A0 s σ H locs) {q n : Nat} {i v : Int32} (hk : sk.2.1 q = (1, n)) (hi : vp_in i n) (hdg : decode cc pc = .ok (.iastore, 1))
    (kk : ∀ (σ' : St) (H1 : Heap) (locs1 : List Loc), σ' = sI σ q i.toNatClampNeg v → Wo G sk A0 s σ' H1 locs1 → W p l e R s m args below meth c H1 locs1 cells slots Q (F0 m (pc + 1) ls rest)) : W p l e R s m args below meth c H locs cells slots Q (F0 m pc ls (.int v :: .int i :: .ref (G.2.2.2 + q) :: rest)) := by
  obtain ⟨hP, hS, hA, hsk, hN⟩ := hW
  have hq := hsk.lt hk (by decide)
  refine va_iast E.1 E.2.1 E.2.2.2.2.2.1 hP (cel_D hA) hS q 0 (by rw [cel_get hq, cE_int hk]) rfl hi hdg (fun H1 locs1 hP1 _ hS1 => kk _ _ _ rfl ⟨?_, hS1, hA, hsk, hN⟩)
  rw [← sI_arr hk (cy := G.2.1) (b := G.2.2.2) (fl := yes), cel_set hq rfl (fun x _ hx => sI_other hx)] at hP1
  exact hP1
theorem r_last (E : En p m c s cc nL own G A0) (hW : Wo G sk A0 s σ H locs) {q n : Nat} {i : Int32} {v : Int64} (hk : sk.2.1 q = (2, n)) (hi : vp_in i n) (hdg : decode cc pc = .ok (.lastore, 1))
    (kk : ∀ (σ' : St) (H1 : Heap) (locs1 : List Loc), σ' = sJ σ q i.toNatClampNeg v → Wo G sk A0 s σ' H1 locs1 → W p l e R s m args below meth c H1 locs1 cells slots Q (F0 m (pc + 1) ls rest)) : W p l e R s m args below meth c H locs cells slots Q (F0 m pc ls (.long v :: .int i :: .ref (G.2.2.2 + q) :: rest)) := by
  obtain ⟨hP, hS, hA, hsk, hN⟩ := hW
  have hq := hsk.lt hk (by decide)
  refine va_last E.1 E.2.1 E.2.2.2.2.2.1 hP (cel_D hA) hS q 1 (by rw [cel_get hq, cE_long hk]) rfl hi hdg (fun H1 locs1 hP1 _ hS1 => kk _ _ _ rfl ⟨?_, hS1, hA, hsk, hN⟩)
  rw [← sJ_arr hk (cy := G.2.1) (b := G.2.2.2) (fl := yes), cel_set hq rfl (fun x _ hx => sJ_other hx)] at hP1
  exact hP1
theorem r_alenJ (E : En p m c s cc nL own G A0) (hW : Wo G sk A0 s σ H locs) {q n : Nat} (hk : sk.2.1 q = (2, n)) (hdg : decode cc pc = .ok (.arraylength, 1))
    (kk : W p l e R s m args below meth c H locs cells slots Q (F0 m (pc + 1) ls (.int (nI n) :: rest))) : W p l e R s m args below meth c H locs cells slots Q (F0 m pc ls (.ref (G.2.2.2 + q) :: rest)) :=
  va_alen (x := (n, .inr (.inl (σ.2 q)))) E.1 E.2.1 E.2.2.2.2.2.1 hW.1 q 1 (by rw [cel_get (hW.2.2.2.1.lt hk (by decide)), cE_long hk]) rfl rfl hdg kk
theorem r_gets (E : En p m c s cc nL own G A0) (hW : Wo G sk A0 s σ H locs) (i : Nat) {idx : Nat} {nm : String} (hi : i < 4) (hn : stN i = nm) (hlink : Cond.fieldLink own idx "TaylorModels" nm "[I" ∈ FW) (hdg : decode cc pc = .ok (.getstatic idx, 3))
    (kk : ∀ t : Nat, va_T .int t (stL i).length (fun j => .int ((stL i).getD j 0)) A0 s s.heap → W p l e R s m args below meth c H locs cells slots Q (F0 m (pc + 3) ls (.ref t :: rest))) : W p l e R s m args below meth c H locs cells slots Q (F0 m pc ls rest) := by
  subst hn
  obtain ⟨t, h1, h2⟩ := E.2.2.2.2.2.2.2.2.2.1 i hi
  exact va_gets E.1 E.2.1 h1 hW.2.1 E.2.2.2.1 (E.wd hlink) (fun x h => h) hdg (kk t h2)
theorem r_getsN (E : En p m c s cc nL own G A0) (hW : Wo G sk A0 s σ H locs) (i : Nat) {idx : Nat} {nm host : String} (hi : i < 4) (hn : stN i = nm) (hlink : Cond.fieldLinkNest own idx "TaylorModels" nm "[I" host ∈ FW) (hdg : decode cc pc = .ok (.getstatic idx, 3))
    (kk : ∀ t : Nat, va_T .int t (stL i).length (fun j => .int ((stL i).getD j 0)) A0 s s.heap → W p l e R s m args below meth c H locs cells slots Q (F0 m (pc + 3) ls (.ref t :: rest))) : W p l e R s m args below meth c H locs cells slots Q (F0 m pc ls rest) := by
  subst hn
  obtain ⟨t, h1, h2⟩ := E.2.2.2.2.2.2.2.2.2.1 i hi
  exact va_getsN E.1 E.2.1 h1 hW.2.1 E.2.2.2.1 (E.wd hlink) (fun x h => h) hdg (kk t h2)
theorem r_tald (E : En p m c s cc nL own G A0) (hW : Wo G sk A0 s σ H locs) {t : Nat} (i : Nat) (hT : va_T .int t (stL i).length (fun j => .int ((stL i).getD j 0)) A0 s s.heap) {x : Int32} (hx : vp_in x (stL i).length) (hdg : decode cc pc = .ok (.iaload, 1))
    (kk : W p l e R s m args below meth c H locs cells slots Q (F0 m (pc + 1) ls (.int ((stL i).getD x.toNatClampNeg 0) :: rest))) : W p l e R s m args below meth c H locs cells slots Q (F0 m pc ls (.int x :: .ref t :: rest)) :=
  va_ti E.1 E.2.1 hT hW.2.1 hx rfl hdg kk
theorem r_ldcS (E : En p m c s cc nL own G A0) (i : Nat) {idx : Nat} (hi : i < 17) (hn : (strAt i).1 = own ∧ (strAt i).2.1 = idx) (hdg : decode cc pc = .ok (.ldc idx, 2))
    (kk : W p l e R s m args below meth c H locs cells slots Q (F0 m (pc + 2) ls (.ref (G.2.2.1 i) :: rest))) : W p l e R s m args below meth c H locs cells slots Q (F0 m pc ls rest) := by
  obtain ⟨h1, h2⟩ := hn
  have h := E.2.2.2.2.2.2.2.1 i hi
  rw [h1, h2] at h
  exact va_ldcS E.1 E.2.1 E.2.2.2.1 h hdg kk
theorem r_ldcSW (E : En p m c s cc nL own G A0) (i : Nat) {idx : Nat} (hi : i < 17) (hn : (strAt i).1 = own ∧ (strAt i).2.1 = idx) (hdg : decode cc pc = .ok (.ldc_w idx, 3))
    (kk : W p l e R s m args below meth c H locs cells slots Q (F0 m (pc + 3) ls (.ref (G.2.2.1 i) :: rest))) : W p l e R s m args below meth c H locs cells slots Q (F0 m pc ls rest) := by
  obtain ⟨h1, h2⟩ := hn
  have h := E.2.2.2.2.2.2.2.1 i hi
  rw [h1, h2] at h
  intro T hT X
  obtain ⟨t, a1, b1⟩ := kk T hT X
  exact ⟨t, X.ldcStringW E.1 E.2.2.2.1 (text := (strAt i).2.2) (a := G.2.2.1 i) h.1 h.2 (g := F0 m pc ls rest) rfl (by rw [E.2.1]; exact hdg) t a1, b1⟩
theorem r_copy (E : En p m c s cc nL own G A0) (hW : Wo G sk A0 s σ H locs) (hls : ls.size = nL) {q0 q1 n0 n1 idx : Nat} {sp dp n : Int32} (h0 : sk.2.1 q0 = (2, n0)) (h1 : sk.2.1 q1 = (2, n1)) (hg : ¬ sp < 0 ∧ ¬ dp < 0 ∧ ¬ n < 0 ∧ sp.toNatClampNeg + n.toNatClampNeg ≤ n0 ∧ dp.toNatClampNeg + n.toNatClampNeg ≤ n1)
    (hw : Cond.methodLink own idx arraycopyName ∈ FW ∧ Cond.native arraycopyName ∈ FW ∧ Cond.static arraycopyName ∈ FW ∧ Cond.initialized "java/lang/System" ∈ FW) (hR : 1 ≤ R.frames ∧ (rest.map fun v => v.category).sum + (nativeFrameWords "java/lang/System" "arraycopy" 5 + 11) ≤ R.locals) (hdg : decode cc pc = .ok (.invokestatic idx, 3))
    (kk : ∀ (σ' : St) (H1 : Heap) (locs1 : List Loc), σ' = sC σ q1 (va_cpy (σ.2 q0) (σ.2 q1) sp.toNatClampNeg dp.toNatClampNeg n.toNatClampNeg) → Wo G sk A0 s σ' H1 locs1 → W p l e R s m args below meth c H1 locs1 cells slots Q (F0 m (pc + 3) ls rest)) : W p l e R s m args below meth c H locs cells slots Q (F0 m pc ls (.int n :: .int dp :: .ref (G.2.2.2 + q1) :: .int sp :: .ref (G.2.2.2 + q0) :: rest)) := by
  obtain ⟨hP, hS, hA, hsk, hN⟩ := hW
  obtain ⟨g1, g2, g3, g4, g5⟩ := hg
  have hq0 := hsk.lt h0 (by decide)
  have hq1 := hsk.lt h1 (by decide)
  refine va_copyl E.1 E.2.1 (E.2.2.1.trans hls.symm) E.2.2.2.1 (E.wd hw.1) (E.wd hw.2.1) (E.wd hw.2.2.1) (E.wd hw.2.2.2) E.2.2.2.2.2.1 hP (cel_D hA) hS q0 q1 1 1 (ty := .long) (by rw [cel_get hq0, cE_long h0]) (by rw [cel_get hq1, cE_long h1]) rfl rfl rfl g1 g2 g3 g4 g5 (fun _ _ => rfl) hR.1 hR.2 hdg (fun H1 locs1 hP1 _ hS1 => kk _ _ _ rfl ⟨?_, hS1, hA, hsk, hN⟩)
  rw [← sC_arr h1 (cy := G.2.1) (b := G.2.2.2) (fl := yes), cel_set hq1 rfl (fun x _ hx => sC_other hx)] at hP1
  exact hP1
/-- long compares with the branch behind them -/
theorem cmp_lt {x y : Int64} : lg_cmp x y < 0 ↔ x < y := by
  unfold lg_cmp; split
  · rename_i h
    exact ⟨fun q => absurd q (by decide), fun q => absurd (Int64.lt_trans q h) Int64.lt_irrefl⟩
  · rename_i h
    split
    · rename_i h2; subst h2
      exact ⟨fun q => absurd q (by decide), fun q => absurd q Int64.lt_irrefl⟩
    · rename_i h2
      refine ⟨fun _ => ?_, fun _ => by decide⟩
      rcases Int64.lt_or_le x y with q | q
      · exact q
      · rcases Int64.lt_or_eq_of_le q with q | q
        · exact absurd q h
        · exact absurd q.symm h2
theorem cmp_eq {x y : Int64} : lg_cmp x y = 0 ↔ x = y := by
  unfold lg_cmp; split
  · rename_i h
    exact ⟨fun q => absurd q (by decide), fun q => absurd h (by rw [q]; exact Int64.lt_irrefl)⟩
  · split
    · rename_i h2; exact ⟨fun _ => h2, fun _ => rfl⟩
    · rename_i h2; exact ⟨fun q => absurd q (by decide), fun q => absurd q h2⟩
theorem cmp_gt {x y : Int64} : 0 < lg_cmp x y ↔ y < x := by
  unfold lg_cmp; split
  · rename_i h; exact ⟨fun _ => h, fun _ => by decide⟩
  · rename_i h
    split
    · exact ⟨fun q => absurd q (by decide), fun q => absurd q h⟩
    · exact ⟨fun q => absurd q (by decide), fun q => absurd q h⟩
end ROWS
