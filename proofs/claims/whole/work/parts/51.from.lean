theorem kw_24 : (Jvm.Cond.classLink "TaylorModelsLaw" (8 : Nat) "TaylorModels") ∈ FW := fw_ix 70 (by decide +kernel) rfl
theorem kw_899 : (Jvm.Cond.classLink "TaylorModelsLaw" (81 : Nat) "TaylorModelsModel") ∈ FW := fw_ix 945 (by decide +kernel) rfl
theorem kw_25 : (Jvm.Cond.instantiable "TaylorModels" (6 : Nat)) ∈ FW := fw_ix 71 (by decide +kernel) rfl
theorem kw_900 : (Jvm.Cond.instantiable "TaylorModelsModel" (30 : Nat)) ∈ FW := fw_ix 946 (by decide +kernel) rfl
theorem kw_26 : (Jvm.Cond.methodLink "TaylorModelsLaw" (80 : Nat) ({ cls := "TaylorModels", name := "<init>", desc := "()V" } : Jvm.MethodName)) ∈ FW := fw_ix 72 (by decide +kernel) rfl
theorem kw_901 : (Jvm.Cond.methodLink "TaylorModelsLaw" (83 : Nat) ({ cls := "TaylorModelsModel", name := "<init>", desc := "()V" } : Jvm.MethodName)) ∈ FW := fw_ix 947 (by decide +kernel) rfl
section FROM
variable {p : Program} {l : Launch} {e : Env} {R : Room} {s : State} {m : MethodId} {args : Array Value} {below : List Frame} {meth : Method} {c : Code} {H : Heap} {locs : List Loc} {cells slots : Nat} {Q : State → Prop}
variable {cc : ByteArray} {nL : Nat} {own : String} {G : GP} {A0 : Nat → Prop} {sk : Sk} {x x1 : Sg} {pc : Nat} {ls : Array Slot} {rest : List Value}
/-- as k_new, and what was there stays -/
theorem k_newF (E : En p m c s cc nL own G A0) (hW : WoK G sk A0 s x H locs cells) {ci n idx : Nat} {C : String} {T : u_T} {ty : Nat → FieldType} (hk : sk.2.1 x.1 = (0, ci)) (hc : vwCl[ci]? = some (C, T, n)) (hin : ∀ w ∈ u_ws C T n, w ∈ FW) (hty : ∀ k, k < n → parseFieldDescriptor (T k).2.2.1 = some (ty k)) (hn : nF ci = n)
    (hdef : ∀ j, j < n → defaultValue (ty j) = if tgF ci j = 0 then .int 0 else if tgF ci j = 1 then .long 0 else .null) (hl : Cond.classLink own idx C ∈ FW) (hinst : Cond.instantiable C n ∈ FW) (hini : Cond.initialized C ∈ FW) (hcs : cells + 1 ≤ R.cells ∧ slots + n ≤ R.slots) (hdg : decode cc pc = .ok (.new idx, 3))
    (kk : ∀ (H1 : Heap), WoK G sk A0 s (nwS x 1 false) H1 locs (cells + 1) → (∀ q, q < H.size → H1[q]? = H[q]?) → W p l e R s m args below meth c H1 locs (cells + 1) (slots + n) Q (F0 m (pc + 3) ls (.ref (G.2.2.2 + x.1) :: rest))) : W p l e R s m args below meth c H locs cells slots Q (F0 m pc ls rest) := by
  subst hn
  have hKn := E.2.2.2.2.2.1.1 ci _ hc
  refine W.newcK E.1 E.2.1 E.2.2.2.1 (E.wd hl) (E.wd hinst) (E.wd hini) rfl hdg hcs.1 hcs.2 hKn.2.1 hW.2.2.2.2.1 fun H1 kC hkC e1 z1 o1 => ?_
  refine kk H1 (hW.push z1 o1 (hW.lt hk (by decide)) ?_) (fun q hq => o1 q (by rw [← hW.2.2.2.2.1]; exact hq))
  rw [cE_obj hk]
  refine ⟨_, hc, (u_born ty (fun w hw => E.wd (args := args) hw) hin hKn hkC e1 hty).to (fun j hj => ?_)⟩
  rw [hdef j hj]
  simp [vp_V, hj, fV, nwS]
theorem k_IF {q idx maxL mc1 ms1 : Nat} {y : MethodName} {cc' : ByteArray} {rm : Room} (E : En p m c s cc nL own G A0) (hAO : AOs s) (hW : WoK G sk A0 s x H locs cells)
    (hM : Met l y [.code y cc' maxL none] rm (va_Pc [.ref (G.2.2.2 + q)] (PreK G sk H.size x)) (QO (PoK G sk x1) (Aw G.2.2.2 sk.1 H.size) none) mc1 ms1 (Aw G.2.2.2 sk.1 H.size)) (hmc : x.1 + mc1 = x1.1)
    (hl : Cond.methodLink own idx y ∈ FW) (hw : wI y cc' maxL) (hy : yOK y 0) (hrm : rm.cells = mc1 ∧ rm.slots = ms1) (hR : rm.frames + 1 ≤ R.frames ∧ 8 + (maxL + 11) + rm.locals ≤ R.locals) (hls : ls.size = nL) (hst : (rest.map fun v => v.category).sum ≤ 8) (hcs : cells + mc1 ≤ R.cells ∧ slots + ms1 ≤ R.slots) (hdg : decode cc pc = .ok (.invokespecial idx, 3))
    (kk : ∀ (H1 : Heap) (locs1 : List Loc), WoK G sk A0 s x1 H1 locs1 (cells + mc1) → (∀ q, q < H.size → ¬ Aw G.2.2.2 sk.1 H.size q → H1[q]? = H[q]?) → W p l e R s m args below meth c H1 locs1 (cells + mc1) (slots + ms1) Q (F0 m (pc + 3) ls rest)) : W p l e R s m args below meth c H locs cells slots Q (F0 m pc ls (.ref (G.2.2.2 + q) :: rest)) := by
  have hcode := E.wd (args := args) hw.2.2.2
  exact c_runF (rv := none) (va_runI (Ts := FW) (As := []) ⟨E.1, E.2.1, E.2.2.1, E.2.2.2.1, fun w h => E.wd h⟩ hM ⟨⟨hrm.1, hrm.2, hR.1, hR.2, code_ws hcode, List.mem_singleton.mpr rfl, hcode, E.wd hw.2.2.1, hy.1, len_of hy.2, E.wd hl⟩, hw.1, E.wd hw.2.1⟩ ⟨PreK.blind, fun U hU hV => ⟨rfl, PreK.of E.2.2.2.2 hAO hW hU hV⟩⟩ rfl rfl hls rfl (lv_room hst) hdg hcs) hW.2.1 hW.aw hW.aw (fun t H1 locs1 ht hp hS hk => kk H1 locs1 (hW.next ht hp hS hmc) hk)
end FROM
def ρ00 : St := (fun _ _ => 0, fun _ _ => 0)
set_option maxHeartbeats 4000000 in
set_option maxRecDepth 100000 in
theorem whole_from {p : Program} {e : Env} {s : State} {m : MethodId} {below : List Frame} {meth : Method} {c : Code} (l : Launch) (hflags : l.flags = flags0) {b L : Nat} {xs : Nat → Int32} (hL : L ≤ 3072) (C0 : lw_At p s m meth c b L xs) {r : St × St × St} (hrn : rn xs (L / 6) 0 σC0 σR0 ρ00 = some r) : W p l e room_1 s m #[Value.ref b] below meth c s.heap [] 0 0 (lw_Z below #[Value.ref b] s) (entryFrame m ([Value.ref b] : List Value).toArray 7) := by
  obtain ⟨hx, hb, hr, hml, hown, hts, hX, hbl, hlk, hgv⟩ := C0
  have hnv : ∀ w ∈ NV, w.before #[Value.ref b] s = true := flat_of_before _ hgv
  have hl9 : l.stackTraces = false := by unfold Launch.stackTraces; rw [hflags]; decide +kernel
  have hA : ∀ a : Nat, a < s.heap.size → ¬ (fun q : Nat => s.heap.size ≤ q) a := fun a h => Nat.not_le.mpr h
  obtain ⟨G, hG, hFx⟩ := s_Fx (A0 := fun q => s.heap.size ≤ q) hts hnv hA s.heap.size
  have hN := s_Nc4 hnv
  have hAO := s_AOs hts
  have E : En p m c s cL_law 7 RL G (fun q => s.heap.size ≤ q) := ⟨hx, hb, hml, hown, hFx⟩
  have E' : En p m c s cL_law 7 RL (gR G) (fun q => s.heap.size ≤ q) := ⟨hx, hb, hml, hown, hFx⟩
  have hl := lv_entry ([.ref b]) (n := 7) (Nat.le_of_ble_eq_true rfl)
  rw [lg_entry_eq]
  generalize (lg_sl ([.ref b]) ++ List.replicate (7 - (lg_sl ([.ref b])).length) Slot.unset).toArray = ls at hl ⊢
  have hl : lv_has ls 7 [(0, .ref b)] := hl
  have hW : WoK G skC (fun q => s.heap.size ≤ q) s x00 s.heap [] 0 := ⟨fun k q h => by simp [celK, cel, x00] at h, va_S.rf, fun q _ => by show s.heap.size ≤ G.2.2.2 + q; omega, fun q h => h, by rw [hG]; rfl, Nat.zero_le _, skC_ok, by rw [hG]; rfl⟩
  obtain ⟨x1, hx1, ex1, hc1⟩ := agr_all (D := G.1) (cy := G.2.1) (b := G.2.2.2) agrC_ok
  obtain ⟨x2, hx2, ex2, hc2⟩ := agr_all (D := G.1) (cy := G.2.1) (b := G.2.2.2 + 258) agrR_ok
  have ex1 : x1.1 = 258 := ex1
  have ex2 : x2.1 = 53 := ex2
  refine k_newF E hW (T := TX6) (ty := tyX6) rfl rfl in_X6 tyX6_ok rfl df_X6 kw_24 kw_25 kw_1 ⟨Nat.le_of_ble_eq_true rfl, Nat.le_of_ble_eq_true rfl⟩ dL_law_0 (fun H hW _ => ?_)
  refine lv_dup E.1 E.2.1 dL_law_3 rfl ?_
  refine k_IF (q := 0) E hAO hW (m_X6_init (sz := H.size) hx1) (by rw [ex1]; rfl) kw_26 wi_X6_init (⟨⟨by decide +kernel, by decide +kernel⟩, by decide +kernel⟩ : yOK yX6_init 0) ⟨rfl, rfl⟩ ⟨Nat.le_of_ble_eq_true rfl, Nat.le_of_ble_eq_true rfl⟩ (lv_size hl) (Nat.le_of_ble_eq_true rfl) ⟨Nat.le_of_ble_eq_true rfl, Nat.le_of_ble_eq_true rfl⟩ dL_law_4 (fun H locs hW _ => ?_)
  refine W.eq (g2 := F0 m 7 ls [.ref (G.2.2.2 + 0)]) rfl ?_
  refine lv_astore_n (lv' := [(1, .ref (G.2.2.2 + 0)), (0, .ref b)]) E.1 E.2.1 dL_law_7 rfl hl (by decide) rfl (fun ls hl => ?_)
  have hC : va_P G.1 vwCl (cel G.2.1 skC G.2.2.2 yes 258 σC0) H := hc1 hW.1
  have hz : H.size = G.2.2.2 + 258 := by rw [hW.2.2.2.2.1, ex1]
  have hS := hW.2.1
  have hW : WoK (gR G) skR (fun q => s.heap.size ≤ q) s x00 H locs 258 := ⟨fun k q h => by simp [celK, cel, x00] at h, hS, fun q _ => by show s.heap.size ≤ G.2.2.2 + 258 + q; omega, fun q h => h, by rw [hz]; rfl, Nat.zero_le _, skR_ok, by rw [← hG]; rfl⟩
  refine k_newF E' hW (T := TX7) (ty := tyX7) rfl rfl in_X7 tyX7_ok rfl df_X7 kw_899 kw_900 kw_8 ⟨Nat.le_of_ble_eq_true rfl, Nat.le_of_ble_eq_true rfl⟩ dL_law_8 (fun H1 hW o1 => ?_)
  have hC : va_P G.1 vwCl (cel G.2.1 skC G.2.2.2 yes 258 σC0) H1 := hC.kept (fun k q hk => o1 q.1 (hC k q hk).lt)
  refine lv_dup E.1 E.2.1 dL_law_11 rfl ?_
  refine k_IF (q := 0) E' hAO hW (m_X7_init (sz := H1.size) hx2) (by rw [ex2]; rfl) kw_901 wi_X7_init (⟨⟨by decide +kernel, by decide +kernel⟩, by decide +kernel⟩ : yOK yX7_init 0) ⟨rfl, rfl⟩ ⟨Nat.le_of_ble_eq_true rfl, Nat.le_of_ble_eq_true rfl⟩ (lv_size hl) (Nat.le_of_ble_eq_true rfl) ⟨Nat.le_of_ble_eq_true rfl, Nat.le_of_ble_eq_true rfl⟩ dL_law_12 (fun H2 locs hW o2 => ?_)
  refine W.eq (g2 := F0 m 15 ls [.ref (G.2.2.2 + 258)]) rfl ?_
  have hC : va_P G.1 vwCl (cel G.2.1 skC G.2.2.2 yes 258 σC0) H2 := hC.kept (fun k q hk => o2 q.1 (hC k q hk).lt (fun z => by
    have h1 := (hC k q hk).lt
    obtain ⟨h2, rfl⟩ := cel_at hk
    rcases z with ⟨z1, z2⟩ | z
    · have z1 : G.2.2.2 + 258 ≤ G.2.2.2 + k := z1
      omega
    · dsimp only at z h1
      omega))
  have hR : va_P G.1 vwCl (cel G.2.1 skR (G.2.2.2 + 258) yes 53 σR0) H2 := hc2 hW.1
  have hz : H2.size = G.2.2.2 + 311 := by
    have h := hW.2.2.2.2.1
    rw [ex2] at h
    exact h
  have hS := hW.2.1
  refine lv_astore_n (lv' := [(2, .ref (G.2.2.2 + 258)), (1, .ref (G.2.2.2 + 0)), (0, .ref b)]) E.1 E.2.1 dL_law_15 rfl hl (by decide) rfl (fun ls hl => ?_)
  refine lv_iconst (v := (1 : Int32)) E.1 E.2.1 dL_law_16 (by decide) ?_
  refine va_newaK (atype := .long) (N := 1) E.1 E.2.1 (E.2.2.2.2.2.2.1.2.1 _) rfl dL_law_17 rfl (by decide) (by decide) (by decide) (Nat.le_of_ble_eq_true rfl) (Nat.le_of_ble_eq_true rfl) hz fun H3 cA e1 z1 o1 hAr hNm => ?_
  have hcy : cA = G.2.1 2 := by
    have h := (E.2.2.2.2.2.1.2 1 _ rfl).2
    exact Option.some.inj (hNm.symm.trans h)
  have o1 : ∀ q, q < H2.size → H3[q]? = H2[q]? := fun q hq => o1 q (by rw [← hz]; exact hq)
  have hC : va_P G.1 vwCl (cel G.2.1 skC G.2.2.2 yes 258 σC0) H3 := hC.kept (fun k q hk => o1 q.1 (hC k q hk).lt)
  have hR : va_P G.1 vwCl (cel G.2.1 skR (G.2.2.2 + 258) yes 53 σR0) H3 := hR.kept (fun k q hk => o1 q.1 (hR k q hk).lt)
  have hO : va_at G.1 vwCl (G.2.2.2 + 311, .inl (G.2.1 2, 1, .inr (.inl (ρ00.2 0)))) H3 := by
    show H3[G.2.2.2 + 311]? = some (arrV (G.2.1 2) 1 (fun j => Value.long (ρ00.2 0 j)))
    rw [e1, hcy]
    rfl
  have hW : Wo G skA (fun q => s.heap.size ≤ q) s (jn σC0 σR0 ρ00) H3 locs := ⟨A_of hC hR hO, ⟨Nat.le_trans hS.1 (by omega), fun q h1 h2 => (o1 q (Nat.lt_of_lt_of_le h1 hS.1)).trans (hS.2.1 q h1 h2), hS.2.2⟩, fun q _ => by show s.heap.size ≤ G.2.2.2 + q; omega, skA_ok, fun q h => h⟩
  refine W.eq (g2 := F0 m 19 ls [.ref (G.2.2.2 + 311)]) rfl ?_
  refine lv_astore_n (lv' := [(3, .ref (G.2.2.2 + 311)), (2, .ref (G.2.2.2 + 258)), (1, .ref (G.2.2.2 + 0)), (0, .ref b)]) E.1 E.2.1 dL_law_19 rfl hl (by decide) rfl (fun ls hl => ?_)
  refine lv_iconst (v := (0 : Int32)) E.1 E.2.1 dL_law_20 (by decide) ?_
  refine lv_istore (lv' := [(4, .int 0), (3, .ref (G.2.2.2 + 311)), (2, .ref (G.2.2.2 + 258)), (1, .ref (G.2.2.2 + 0)), (0, .ref b)]) E.1 E.2.1 dL_law_21 hl (by decide) rfl (fun ls hl => ?_)
  have hd := Nat.div_add_mod L 6
  have hd2 := Nat.mod_lt L (show 0 < 6 by decide)
  exact law_loop hL E hN hl9 hX hbl hr hlk (L / 6) 0 σC0 σR0 ρ00 r H3 locs _ _ ls (by omega) (by omega) hrn (by omega) (by omega) hW (lv_sub hl [4, 3, 2, 1, 0] rfl)
