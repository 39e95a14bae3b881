/-! INTEGRALS, of the class -/
def slI (a b : Int32) : Int32 := if a < 0 then -1 else if b < 0 then -1 else if (3 : Int32) < a then -1 else if b ≤ (3 : Int32) - a then (stL 2).getD a.toNatClampNeg 0 + b else -1
theorem e_slotOf {a b : Int32} {σ : St} : f_X6_slotOf a b σ = some (slI a b, σ) := by
  unfold f_X6_slotOf slI
  by_cases h1 : a < 0
  · rw [if_pos h1, if_pos h1]
  rw [if_neg h1, if_neg h1]
  by_cases h2 : b < 0
  · rw [if_pos h2, if_pos h2]
  rw [if_neg h2, if_neg h2]
  by_cases h3 : (3 : Int32) < a
  · rw [if_pos h3, if_pos h3]
  rw [if_neg h3, if_neg h3]
  by_cases h4 : b ≤ (3 : Int32) - a
  · rw [if_pos h4, if_pos h4, gd_p]
    obtain ⟨j, hj, rfl⟩ := nI_of h1
    have h3 : ¬ nI 3 < nI j := h3
    rw [nI_ltI (by decide) hj] at h3
    exact ge_pos (N := 4) (by decide) (by omega)
  · rw [if_neg h4, if_neg h4]
def sl (a b : Nat) : Nat := [0, 4, 7, 9].getD a 0 + b
theorem sl_ok : ∀ a, a < 5 → ∀ b, b < 5 → slI (nI a) (nI b) = if a + b ≤ 3 then nI (sl a b) else -1 := by decide +kernel
theorem sl_lt : ∀ a, a < 5 → ∀ b, b < 5 → a + b ≤ 3 → sl a b < 10 := by decide +kernel
theorem lN_5 : ∀ d, d < 5 → 0 < d → (0 : Int64) < lN d ∧ ¬ lN d = 0 := by decide +kernel
theorem px_ok : ∀ k, k < 10 → (stL 0).getD k 0 = nI (PX k) ∧ (stL 1).getD k 0 = nI (PY k) ∧ PX k < 4 ∧ PY k < 4 ∧ PX k + PY k < 4 := by decide +kernel
def itV (w : V) (c : Int64) (a b d : Nat) : V := if a + b ≤ 3 then pqV w (sl a b) c (lN d) else setV (setV w 10 (w 10 + fdv (mnJ (c * (lI (nI a) (nI b)).toInt64) c) (lN d))) 11 (w 11 - fdv (-(mxJ (c * (lI (nI a) (nI b)).toInt64) c)) (lN d))
theorem e_rangeLow {c : Int64} {l : Int32} {σ : St} : f_X6_rangeLow c l σ = some (mnJ (c * l.toInt64) c, σ) := rfl
theorem e_rangeHigh {c : Int64} {l : Int32} {σ : St} : f_X6_rangeHigh c l σ = some (mxJ (c * l.toInt64) c, σ) := rfl
def iI (v : Int32) (k : Nat) : Nat := if v = 0 then PX k + 1 else PX k
def iJ (v : Int32) (k : Nat) : Nat := if v = 0 then PY k else PY k + 1
def iD (v : Int32) (k : Nat) : Nat := if v = 0 then PX k + 1 else PY k + 1
def intN (p : V) (v : Int32) (w : V) : Nat → V
  | 0 => w
  | n + 1 => itV (intN p v w n) (p n) (iI v n) (iJ v n) (iD v n)
def widV (w : V) (a : Int64) : V := setV (setV w 10 (w 10 - a)) 11 (w 11 + a)
def intV (v : Int32) (p : V) : V := intN p v (widV (cst 0) (mxJ (abJ (p 10)) (abJ (p 11)))) 10
section INTEG
variable {q m qa : Nat} {σ : St}
theorem e_integrateTerm {a b d : Nat} {c : Int64} (hA : isA qa) (ha : a < 5) (hb : b < 5) (hd0 : 0 < d) (hd : d < 5) :
    Tr (f_X0_integrateTerm qa c (nI a) (nI b) (nI d) σ) (fun _ σ' => val σ' (qa + 4) = itV (val σ (qa + 4)) c a b d ∧ Fr (at2 (qa + 4)) σ σ') := by
  obtain ⟨z1, z2⟩ := lN_5 d hd hd0
  have hs := sl_lt a ha b hb
  have hm := hA.2.2.2.2.2.1
  have h0 := hA.1
  have hr := hA.2.2.2.1.2.1
  clear hA
  unfold f_X0_integrateTerm
  rw [e_slotOf, obn_s, sl_ok a ha b hb, hr]
  by_cases h : a + b ≤ 3
  · have hs := hs h
    rw [if_pos h, if_neg (nI_pos (Nat.lt_trans hs (by decide))), nI_l (Nat.lt_trans hd (by decide))]
    unfold itV; rw [if_pos h]
    exact Tr.gd h0 (Tr.gd hm.1 (Tr.obn ((e_putQuotient hm hs z1 z2).mono (fun _ σ1 h1 => Tr.ret h1))))
  · rw [if_neg h, if_pos (by decide), if_neg (nI_nle hd0 (Nat.lt_trans hd (by decide))), e_lowestOf, obn_s]
    unfold itV; rw [if_neg h]
    refine Tr.gd h0 (Tr.gd hm.1 ?_)
    rw [e_rangeLow, obn_s, nI_l (Nat.lt_trans hd (by decide)), e_floorDiv z2, obn_s]
    refine Tr.bnd ?_
    rw [e_rangeHigh, obn_s, e_floorDiv z2, obn_s]
    refine Tr.bnd (Tr.ret ⟨?_, (Fr_J at2_0).tr (Fr_J at2_0)⟩)
    rw [val_hi', val_lo', sJ_at, if_neg (fun t => absurd t.2 (by decide))]
    rfl
theorem e_intLoop {K : Nat → Nat → St → Option (Int32 × St)} {Q : Int32 → St → Prop} {v : Int32} {w : V} {σ0 : St} (hA : isA qa) (hm : isM m) (hne : m ≠ qa + 4)
    (hK : ∀ σ1, val σ1 (qa + 4) = intN (val σ0 m) v w 10 → Fr (at2 (qa + 4)) σ0 σ1 → Tr (K qa q σ1) Q) (hw : val σ (qa + 4) = w) (hF : Fr (at2 (qa + 4)) σ0 σ) : Tr (f_X0_integrateModel_L35 K FU qa q m v 0 σ) Q := by
  have key : ∀ n k (σ1 : St), k ≤ 10 → 10 < n + k → Fr (at2 (qa + 4)) σ0 σ1 → val σ1 (qa + 4) = intN (val σ0 m) v w k → Tr (f_X0_integrateModel_L35 K n qa q m v (nI k) σ1) Q := by
    intro n
    induction n with
    | zero => intro k σ1 h1 h2; omega
    | succ n ih =>
      intro k σ1 h1 h2 hF1 h5
      rw [f_X0_integrateModel_L35]
      refine Tr.ite (fun h => ?_) (fun h => ?_)
      · rw [ten_le (by omega)] at h
        have : k = 10 := by omega
        subst this
        exact hK σ1 h5 hF1
      · rw [ten_le (by omega)] at h
        have hk : k < 10 := by omega
        obtain ⟨x1, x2, x3, x4, x5⟩ := px_ok k hk
        have gz : ¬ (nI k < 0 ∨ 10 ≤ (nI k).toNatClampNeg) := ge_pos (N := 10) (by decide) hk
        have ec : σ1.2 (m + 1) k = val σ0 m k := by rw [val_c hk, hF1.vl2 hA.2.2.2.2.2.1 hm hne]
        have g2 : (kC (rC m 0)).1 = 2 ∧ ¬ (nI k < 0 ∨ (kC (rC m 0)).2 ≤ (nI k).toNatClampNeg) := by rw [hm.2.1, hm.2.2]; exact ⟨rfl, gz⟩
        have fin : ∀ {a b d : Nat} , a = iI v k → b = iJ v k → d = iD v k → a < 5 → b < 5 → 0 < d → d < 5 → Tr (gd (kC qa = (0, 0)) <| obn (f_X0_integrateTerm qa (val σ0 m k) (nI a) (nI b) (nI d) σ1) fun _ σ50 => bnd (nI k + (1 : Int32)) fun x52 => f_X0_integrateModel_L35 K n qa q m v x52 σ50) Q := by
          intro a b d ea eb ed ha hb hd0 hd
          refine Tr.gd hA.1 (Tr.obn ((e_integrateTerm hA ha hb hd0 hd).mono (fun _ σ2 h6 => Tr.bnd ?_)))
          rw [nI_1]
          refine ih (k + 1) σ2 (by omega) (by omega) (hF1.tr h6.2) ?_
          rw [h6.1, h5, intN, ea, eb, ed]
        by_cases hv : v = 0
        · have fin := fin (a := PX k + 1) (b := PY k) (d := PX k + 1) (by unfold iI; rw [if_pos hv]) (by unfold iJ; rw [if_pos hv]) (by unfold iD; rw [if_pos hv]) (by omega) (by omega) (by omega) (by omega)
          refine Tr.bnd ?_
          rw [if_pos hv]
          refine Tr.gd gz (Tr.bnd ?_)
          rw [if_pos hv]
          refine Tr.gd gz (Tr.gd hm.1 (Tr.gd g2 (Tr.bnd ?_)))
          rw [if_pos hv, hm.2.1, nI_clamp (n := k) (by omega), ec, x1, x2, nI_1]
          exact fin
        · have fin := fin (a := PX k) (b := PY k + 1) (d := PY k + 1) (by unfold iI; rw [if_neg hv]) (by unfold iJ; rw [if_neg hv]) (by unfold iD; rw [if_neg hv]) (by omega) (by omega) (by omega) (by omega)
          refine Tr.bnd ?_
          rw [if_neg hv]
          refine Tr.gd gz (Tr.bnd ?_)
          rw [if_neg hv]
          refine Tr.gd gz (Tr.gd hm.1 (Tr.gd g2 (Tr.bnd ?_)))
          rw [if_neg hv, hm.2.1, nI_clamp (n := k) (by omega), ec, x1, x2, nI_1]
          exact fin
  exact key FU 0 σ (by decide) (by decide) hF hw
theorem e_integrateModel {v : Int32} (hA : isA qa) (hq : isM q) (hm : isM m) (hne : m ≠ qa + 4) :
    Tr (f_X0_integrateModel qa q m v σ) (fun r σ' => val σ' q = intV v (val σ m) ∧ r = bI (fitN (val σ' q) 12) ∧ Fr (fun x => at2 (qa + 4) x ∨ at2 q x) σ σ') := by
  have h4 := hA.2.2.2.2.2.1
  unfold f_X0_integrateModel
  rw [hA.2.2.2.1.2.1]
  refine Tr.gd hA.1 (Tr.gd h4.1 (Tr.obn ((e_becomeConstant h4).mono (fun _ σ1 h6 => Tr.gd hm.1 ?_))))
  obtain ⟨h6, hF1⟩ := h6
  rw [val_lo, val_hi, hF1.vl2 h4 hm hne]
  refine Tr.obn ((e_widen h4).mono (fun _ σ2 h7 => ?_))
  obtain ⟨h7, hF2⟩ := h7
  rw [h6] at h7
  refine e_intLoop (σ0 := σ) hA hm hne (fun σ3 h8 hF3 => ?_) h7 (hF1.tr hF2)
  rw [hA.2.2.2.1.2.1]
  refine Tr.gd hA.1 (Tr.gd hq.1 (Tr.obn ((e_copyFrom hq h4).mono (fun _ σ4 h9 => ?_))))
  obtain ⟨h9, hF4⟩ := h9
  rw [h8] at h9
  rw [e_fits hq, obn_s]
  exact Tr.gd (by unfold bI; split <;> simp) (Tr.ret ⟨h9, rfl, (hF3.weak (fun _ t => Or.inl t)).tr (hF4.weak (fun _ t => Or.inr t))⟩)
end INTEG
