/-! PRODUCTS, of the reference -/
theorem R0 : kR 0 = (0, 7) := by decide +kernel
theorem R13 : rR 0 12 = 13 ∧ kR 13 = (2, 49) := by decide +kernel
theorem R14 : rR 0 13 = 14 ∧ kR 14 = (2, 12) := by decide +kernel
theorem isR.n13 {r : Nat} (h : isR r) : r ≠ 13 := fun e => by rw [e] at h; have h : kR 13 = (2, 12) := h; rw [R13.2] at h; cases h
theorem pl_ok2 : ∀ k, k < 10 → ∀ m, m < 10 → (7 : Int32) * (nI (PX k) + nI (PX m)) + nI (PY k) + nI (PY m) = nI (pl k m) ∧ pl k m < 49 := by decide +kernel
theorem pl_inj : ∀ k, k < 10 → ∀ m, m < 10 → ∀ m', m' < 10 → pl k m = pl k m' → m = m' := by decide +kernel
theorem bdd.one {c : Nat → Prop} [DecidablePred c] {g : Nat → Int64} {b : Nat} : ∀ {n : Nat}, (∀ m m', m < n → m' < n → c m → c m' → m = m') → (∀ m, m < n → bdd b (g m)) → bdd b (sumN (fun m => if c m then g m else 0) n)
  | 0, _, _ => bdd.z
  | n + 1, hu, hg => by
    rw [sumN]
    by_cases h : c n
    · rw [if_pos h, sumN_zero, Int64.zero_add]
      · exact hg n (Nat.lt_succ_self n)
      · intro m hm
        rw [if_neg (fun t => absurd (hu m n (by omega) (by omega) t h) (by omega))]
    · rw [if_neg h, Int64.add_zero]
      exact bdd.one (fun m m' h1 h2 => hu m m' (by omega) (by omega)) (fun m hm => hg m (by omega))
theorem pr_bd {u w : V} (hu : fitN u 12) (hw : fitN w 12) (p : Nat) : bdd 100000000000000000 (pr u w p) := by
  unfold pr
  have h := bdd.sum (f := fun k => sumN (fun m => if pl k m = p then u k * w m else 0) 10) (b := 10000000000000000) (n := 10) (fun k hk => bdd.one (fun m m' h1 h2 e1 e2 => pl_inj k hk m h1 m' h2 (e1.trans e2.symm)) (fun m hm => (fit_bd hu (show k < 12 by omega)).mul (fit_bd hw (show m < 12 by omega)) (by decide))) (by decide)
  exact h.up (by decide)
theorem mn_sm {a b : Int64} : (if a < b then a else b) = mnJ a b := by
  unfold mnJ
  by_cases h : a < b
  · rw [if_pos h, if_neg (fun t => by rw [Int64.lt_iff_toInt_lt] at h t; omega)]
  · rw [if_neg h]
    by_cases h2 : b < a
    · rw [if_pos h2]
    · rw [if_neg h2]; rw [Int64.lt_iff_toInt_lt] at h h2; exact Int64.toInt_inj.mp (by omega)
theorem mx_gr {a b : Int64} : (if b < a then a else b) = mxJ a b := rfl
theorem sLo_bd {v : V} (h : fitN v 12) : bdd 1000000000 (sLo v) := by
  unfold sLo
  refine (bdd.sum (b := 100000000) (n := 10) (fun k hk => ?_) (by decide)).up (by decide)
  have hb := fit_bd h (show k < 12 by omega)
  refine bdd.mn ?_ hb
  unfold LW; rw [LW_tab k hk]
  exact hb.lI (by decide) lI_3
theorem sHi_bd {v : V} (h : fitN v 12) : bdd 1000000000 (sHi v) := by
  unfold sHi
  refine (bdd.sum (b := 100000000) (n := 10) (fun k hk => ?_) (by decide)).up (by decide)
  have hb := fit_bd h (show k < 12 by omega)
  refine bdd.mx ?_ hb
  unfold LW; rw [LW_tab k hk]
  exact hb.lI (by decide) lI_3
theorem ip_bd {a b c d : Int64} {m n : Nat} (ha : bdd m a) (hb : bdd m b) (hc : bdd n c) (hd : bdd n d) (h : m * n < 2 ^ 63) : bdd (m * n) (ipL a b c d) ∧ bdd (m * n) (ipH a b c d) := by
  unfold ipL ipH
  exact ⟨bdd.mn (bdd.mn (ha.mul hc h) (ha.mul hd h)) (bdd.mn (hb.mul hc h) (hb.mul hd h)), bdd.mx (bdd.mx (ha.mul hc h) (ha.mul hd h)) (bdd.mx (hb.mul hc h) (hb.mul hd h))⟩
theorem tLo_bd {P : Nat → Int64} (h : ∀ p, bdd 100000000000000000 (P p)) : bdd 4900000000000000000 (tLo P) ∧ bdd 4900000000000000000 (tHi P) := by
  have z : ∀ i, i < 7 → (7 - i) * 100000000000000000 < 2 ^ 63 := fun i hi => by omega
  constructor
  · unfold tLo
    refine (bdd.sum (b := 700000000000000000) (n := 7) (fun i hi => ?_) (by decide)).up (by decide)
    refine (bdd.sum (b := 100000000000000000) (n := 7 - i) (fun j hj => ?_) (z i hi)).up (by omega)
    unfold gLo; split
    · exact bdd.mn ((h _).lI (by decide) lI_3) (h _)
    · exact bdd.z
  · unfold tHi
    refine (bdd.sum (b := 700000000000000000) (n := 7) (fun i hi => ?_) (by decide)).up (by decide)
    refine (bdd.sum (b := 100000000000000000) (n := 7 - i) (fun j hj => ?_) (z i hi)).up (by omega)
    unfold gHi; split
    · exact bdd.mx ((h _).lI (by decide) lI_3) (h _)
    · exact bdd.z
theorem mLo_bd {u w : V} (hu : fitN u 12) (hw : fitN w 12) : bdd (2 ^ 63 - 2 ^ 32 - 1) (mLo u w) ∧ bdd (2 ^ 63 - 2 ^ 32 - 1) (mHi u w) := by
  have t := tLo_bd (pr_bd hu hw)
  have i1 := ip_bd (sLo_bd hu) (sHi_bd hu) (fit_bd hw (show 10 < 12 by decide)) (fit_bd hw (show 11 < 12 by decide)) (by decide)
  have i2 := ip_bd (fit_bd hu (show 10 < 12 by decide)) (fit_bd hu (show 11 < 12 by decide)) (sLo_bd hw) (sHi_bd hw) (by decide)
  have i3 := ip_bd (fit_bd hu (show 10 < 12 by decide)) (fit_bd hu (show 11 < 12 by decide)) (fit_bd hw (show 10 < 12 by decide)) (fit_bd hw (show 11 < 12 by decide)) (by decide)
  unfold mLo mHi
  exact ⟨(((t.1.add i1.1 (by decide)).add i2.1 (by decide)).add i3.1 (by decide)).up (by decide), (((t.2.add i1.2 (by decide)).add i2.2 (by decide)).add i3.2 (by decide)).up (by decide)⟩
def addLH (v : V) (a b : Int64) : V := setV (setV v 10 (v 10 + a)) 11 (v 11 + b)
theorem add_r (a b c : Int64) : a + b + c = a + c + b := by rw [Int64.add_assoc, Int64.add_comm b c, ← Int64.add_assoc]
theorem pqV_LH {v : V} {k : Nat} {n d a b : Int64} (hk : k < 10) : pqV (addLH v a b) k n d = addLH (pqV v k n d) a b := by
  have h10 : addLH v a b 10 = v 10 + a := rfl
  have h11 : addLH v a b 11 = v 11 + b := rfl
  unfold pqV
  by_cases h : fdv n d * d = n
  · rw [if_pos h, if_pos h]
    funext j
    unfold addLH setV
    by_cases j11 : j = 11
    · subst j11; rw [if_neg (by omega), if_pos rfl, if_pos rfl, if_neg (by omega)]
    · by_cases j10 : j = 10
      · subst j10; rw [if_neg (by omega), if_neg (by omega), if_pos rfl, if_neg (by omega), if_pos rfl, if_neg (by omega)]
      · simp only [j11, j10, if_false]
  · rw [if_neg h, if_neg h, h10, h11]
    funext j
    unfold addLH setV
    by_cases j11 : j = 11
    · subst j11; simp only [if_true]; exact add_r _ _ _
    · by_cases j10 : j = 10
      · subst j10; simp only [if_true, if_neg (show ¬ (10 : Nat) = 11 by decide)]; exact add_r _ _ _
      · simp only [j11, j10, if_false]
theorem qs_LH {X : Nat → Int64} {v : V} {a b : Int64} : ∀ {n : Nat}, n ≤ 10 → qs X (addLH v a b) n = addLH (qs X v n) a b
  | 0, _ => rfl
  | n + 1, h => by rw [qs, qs, qs_LH (by omega), pqV_LH (by omega)]
theorem mulW_LH {u w : V} : addLH (qs (pr u w) (cst 0) 10) (fdv (mLo u w) 1000) (-fdv (-mHi u w) 1000) = mulW u w := by
  rw [← qs_LH (by decide)]
  unfold mulW mulV
  congr 1
  funext j
  unfold addLH cst
  simp only [Int64.zero_add, if_neg (show ¬ (10 : Nat) = 0 by decide), if_neg (show ¬ (11 : Nat) = 0 by decide)]
theorem slot_at : ∀ i, i < 7 → ∀ j, j < 7 → i + j ≤ 3 → 7 * i + j = pl (sl i j) 0 ∧ sl i j < 10 ∧ LWm (sl i j) = (if i = 0 ∧ j = 0 then 0 else mnJ (1 * (lI (nI i) (nI j)).toInt64) 1) := by decide +kernel
theorem slot_nx : ∀ i, i < 4 → (i = 0 → sl i 0 = 0) ∧ (0 < i → sl i 0 = sl (i - 1) (4 - (i - 1))) := by decide +kernel
theorem d1000 : (0 : Int) < (1000 : Int64).toInt ∧ (1000 : Int64).toInt < 2 ^ 31 ∧ ¬ (1000 : Int64) = 0 := by decide
section PROD
variable {a b to : Nat} {σ : St}
theorem r_down {v d : Int64} (hv : bdd (2 ^ 63 - 2 ^ 32) v) (hd : 0 < d.toInt) (hd2 : d.toInt < 2 ^ 31) : f_X7_down v d σ = some (fdv v d, σ) := by
  rw [← down_fdv hv hd hd2]
  have h0 : ¬ d = 0 := fun t => by rw [t, Int64.toInt_zero] at hd; omega
  unfold f_X7_down
  split
  · rw [gd_p h0]
  · rw [gd_p h0]
theorem r_up {v d : Int64} (hv : bdd (2 ^ 63 - 2 ^ 32) v) (hd : 0 < d.toInt) (hd2 : d.toInt < 2 ^ 31) : f_X7_up v d σ = some (-fdv (-v) d, σ) := by
  unfold f_X7_up
  rw [r_down (hv.neg (by decide)) hd hd2, obn_s]
theorem r_lay (ha : isR a) (hb : isR b) : Tr (f_X7_layProducts 0 a b σ) (fun _ σ' => (∀ i, i < 49 → σ'.2 13 i = pr (rv σ a) (rv σ b) i) ∧ Fr (fun x => x = 13) σ σ') := by
  have inner : ∀ (K : Nat → Nat → Nat → Int32 → St → Option (Unit × St)) (P : Unit → St → Prop) (k : Nat) (B : Nat → Int64), k < 10 →
      (∀ σ1 : St, Fr (fun x => x = 13) σ σ1 → (∀ i, i < 49 → σ1.2 13 i = B i + sumN (fun m => if pl k m = i then rv σ a k * rv σ b m else 0) 10) → Tr (K 0 a b (nI k) σ1) P) →
      ∀ n m (σ1 : St), m ≤ 10 → 10 < n + m → Fr (fun x => x = 13) σ σ1 → (∀ i, i < 49 → σ1.2 13 i = B i + sumN (fun m => if pl k m = i then rv σ a k * rv σ b m else 0) m) → Tr (f_X7_layProducts_L32 K n 0 a b (nI k) (nI m) σ1) P := by
    intro K P k B hk hK n
    induction n with
    | zero => intro m σ1 h1 h2; omega
    | succ n ih =>
      intro m σ1 h1 h2 hF h5
      rw [f_X7_layProducts_L32]
      refine Tr.ite (fun h => ?_) (fun h => ?_)
      · rw [ten_le (by omega)] at h
        have : m = 10 := by omega
        subst this
        exact hK σ1 hF h5
      · rw [ten_le (by omega)] at h
        have hm : m < 10 := by omega
        obtain ⟨p1, p2⟩ := pl_ok2 k hk m hm
        have ea : σ1.2 a k = rv σ a k := by rw [hF.2 a ha.n13]; exact rv_at (by omega)
        have eb : σ1.2 b m = rv σ b m := by rw [hF.2 b hb.n13]; exact rv_at (by omega)
        rw [r_iOf hk, obn_s, r_iOf hm, obn_s, r_jOf hk, obn_s, r_jOf hm, obn_s, p1, bnd_s, R13.1, R13.2]
        refine Tr.gd R0 (Tr.gd ⟨rfl, ge_pos (by decide) p2⟩ (Tr.gd (r_gd ha (by omega)) (Tr.gd (r_gd hb (by omega)) (Tr.bnd (Tr.bnd ?_)))))
        rw [nI_clamp (n := pl k m) (by omega), nI_clamp (n := k) (by omega), nI_clamp (n := m) (by omega), ea, eb, nI_1]
        refine ih (m + 1) _ (by omega) (by omega) (hF.tr (Fr_J rfl)) (fun i hi => ?_)
        rw [sJ_at, sumN]
        by_cases hi2 : i = pl k m
        · rw [if_pos ⟨rfl, hi2⟩, hi2, if_pos rfl, h5 _ p2, Int64.add_assoc]
        · rw [if_neg (fun t => hi2 t.2), if_neg (fun t => hi2 t.symm), Int64.add_zero]
          exact h5 i hi
  have outer : ∀ n k (σ1 : St), k ≤ 10 → 10 < n + k → Fr (fun x => x = 13) σ σ1 → (∀ i, i < 49 → σ1.2 13 i = sumN (fun k => sumN (fun m => if pl k m = i then rv σ a k * rv σ b m else 0) 10) k) → Tr (f_X7_layProducts_L23 n 0 a b (nI k) σ1) (fun _ σ' => (∀ i, i < 49 → σ'.2 13 i = pr (rv σ a) (rv σ b) i) ∧ Fr (fun x => x = 13) σ σ') := by
    intro n
    induction n with
    | zero => intro k σ1 h1 h2; omega
    | succ n ih =>
      intro k σ1 h1 h2 hF h5
      rw [f_X7_layProducts_L23]
      refine Tr.ite (fun h => ?_) (fun h => ?_)
      · rw [ten_le (by omega)] at h
        have : k = 10 := by omega
        subst this
        exact Tr.ret ⟨h5, hF⟩
      · rw [ten_le (by omega)] at h
        refine inner _ _ k (fun i => sumN (fun k => sumN (fun m => if pl k m = i then rv σ a k * rv σ b m else 0) 10) k) (by omega) (fun σ2 hF2 h6 => ?_) FU 0 σ1 (by decide) (by decide) hF (fun i hi => ?_)
        · refine Tr.bnd ?_
          rw [nI_1]
          exact ih (k + 1) σ2 (by omega) (by omega) hF2 (fun i hi => by rw [h6 i hi]; rfl)
        · rw [h5 i hi, sumN, Int64.add_zero]
  have clr : ∀ (K : Nat → Nat → Nat → St → Option (Unit × St)) (P : Unit → St → Prop), (∀ σ1 : St, Fr (fun x => x = 13) σ σ1 → (∀ i, i < 49 → σ1.2 13 i = 0) → Tr (K 0 a b σ1) P) →
      ∀ n m (σ1 : St), m ≤ 49 → 49 < n + m → Fr (fun x => x = 13) σ σ1 → (∀ i, i < m → σ1.2 13 i = 0) → Tr (f_X7_layProducts_L2 K n 0 a b (nI m) σ1) P := by
    intro K P hK n
    induction n with
    | zero => intro m σ1 h1 h2; omega
    | succ n ih =>
      intro m σ1 h1 h2 hF h5
      rw [f_X7_layProducts_L2]
      refine Tr.ite (fun h => ?_) (fun h => ?_)
      · have h : nI 49 ≤ nI m := h
        rw [nI_leI (by decide) (by omega)] at h
        have : m = 49 := by omega
        subst this
        exact hK σ1 hF h5
      · have h : ¬ nI 49 ≤ nI m := h
        rw [nI_leI (by decide) (by omega)] at h
        rw [R13.1, R13.2, nI_clamp (n := m) (by omega)]
        refine Tr.gd R0 (Tr.gd ⟨rfl, by have := ge_pos (N := 49) (k := m) (by decide) (by omega); rw [nI_clamp (by omega)] at this; exact this⟩ (Tr.bnd (Tr.bnd ?_)))
        rw [nI_1]
        refine ih (m + 1) _ (by omega) (by omega) (hF.tr (Fr_J rfl)) (fun i hi => ?_)
        rw [sJ_at]
        by_cases hi2 : i = m
        · rw [if_pos ⟨rfl, hi2⟩]
        · rw [if_neg (fun t => hi2 t.2)]; exact h5 i (by omega)
  unfold f_X7_layProducts
  refine clr _ _ (fun σ1 hF h5 => ?_) FU 0 σ (by decide) (by decide) Fr.rf (fun i hi => absurd hi (by omega))
  exact outer FU 0 σ1 (by decide) (by decide) hF (fun i hi => by rw [h5 i hi]; rfl)
end PROD
