def ns (i j : Nat) : Nat := if i < 4 then sl i 0 + min j (4 - i) else 10
theorem ns_a : ∀ i, i < 7 → ns i (7 - i) = ns (i + 1) 0 := by decide +kernel
theorem ns_b : ∀ i, i < 7 → ∀ j, j < 7 → (i + j ≤ 3 → ns i j = sl i j ∧ ns i (j + 1) = sl i j + 1 ∧ 7 * i + j = pl (sl i j) 0 ∧ sl i j < 10) := by decide +kernel
theorem ns_l : ∀ i, i < 7 → ∀ j, j < 7 → (i + j ≤ 3 → LWm (sl i j) = (if i = 0 ∧ j = 0 then 0 else mnJ (1 * (lI (nI i) (nI j)).toInt64) 1)) := by decide +kernel
theorem ns_c : ∀ i, i < 7 → ∀ j, j < 7 → 3 < i + j → i + j < 7 → ns i (j + 1) = ns i j := by
  intro i hi j hj h1 h2
  unfold ns
  split
  · omega
  · rfl
def accL (X : Nat → Int64) (i : Nat) : Int64 := sumN (fun i => sumN (gLo X i) (7 - i)) i
def accH (X : Nat → Int64) (i : Nat) : Int64 := sumN (fun i => sumN (gHi X i) (7 - i)) i
theorem r_down1 {v : Int64} {σ : St} (hv : bdd (2 ^ 63 - 2 ^ 32) v) : f_X7_down v 1000 σ = some (fdv v 1000, σ) := r_down hv d1000.1 d1000.2.1
theorem r_up1 {v : Int64} {σ : St} (hv : bdd (2 ^ 63 - 2 ^ 32) v) : f_X7_up v 1000 σ = some (-fdv (-v) 1000, σ) := r_up hv d1000.1 d1000.2.1
theorem ix7' {i j : Nat} : (7 : Int32) * nI i + nI j = nI (7 * i + j) := by
  rw [show (7 : Int32) * nI i = nI (7 * i) from pk_mul 7 i, nI_add]
section PROD
variable {a b to : Nat} {σ : St}
theorem r_mulLoop {X : Nat → Int64} {σ0 : St} {c1 c2 c3 c4 : Int64} {K : Nat → Nat → Nat → Nat → Int64 → Int64 → Int64 → Int64 → Int64 → Int64 → St → Option (Int32 × St)} {Q : Int32 → St → Prop} (hX : ∀ i, i < 49 → σ0.2 13 i = X i) (hb : ∀ p, bdd 100000000000000000 (X p)) (h0 : rv σ0 14 = cst 0)
    (hK : ∀ σ1, Fr (fun x => x = 14) σ0 σ1 → rv σ1 14 = qs X (cst 0) 10 → Tr (K 0 a b to c1 c2 c3 c4 (tLo X) (tHi X) σ1) Q) : Tr (f_X7_productOf_L46 K FU 0 a b to c1 c2 c3 c4 0 0 0 σ0) Q := by
  have i14 : isR 14 := R14.2
  have inner : ∀ (K' : Nat → Nat → Nat → Nat → Int64 → Int64 → Int64 → Int64 → Int64 → Int64 → Int32 → St → Option (Int32 × St)) (i : Nat), i < 7 →
      (∀ σ1, Fr (fun x => x = 14) σ0 σ1 → rv σ1 14 = qs X (cst 0) (ns (i + 1) 0) → Tr (K' 0 a b to c1 c2 c3 c4 (accL X (i + 1)) (accH X (i + 1)) (nI i) σ1) Q) →
      ∀ n j (σ1 : St), j ≤ 7 - i → 7 - i < n + j → Fr (fun x => x = 14) σ0 σ1 → rv σ1 14 = qs X (cst 0) (ns i j) → Tr (f_X7_productOf_L56 K' n 0 a b to c1 c2 c3 c4 (accL X i + sumN (gLo X i) j) (accH X i + sumN (gHi X i) j) (nI i) (nI j) σ1) Q := by
    intro K' i hi hK' n
    have w0 := ns_a i hi
    induction n with
    | zero => intro j σ1 h1 h2; omega
    | succ n ih =>
      intro j σ1 h1 h2 hF h5
      rw [f_X7_productOf_L56, nI_add]
      refine Tr.ite (fun h => ?_) (fun h => ?_)
      · rw [seven_le (by omega)] at h
        have : j = 7 - i := by omega
        subst this
        exact hK' σ1 hF (by rw [h5, w0])
      · rw [seven_le (by omega)] at h
        have ex : σ1.2 13 (7 * i + j) = X (7 * i + j) := by rw [hF.2 13 (by decide)]; exact hX _ (by omega)
        have e7 : i * 7 + j = 7 * i + j := by omega
        rw [ix7', R13.1, R13.2, R14.1, R14.2, bnd_s, nI_clamp (n := 7 * i + j) (by omega), ex]
        refine Tr.gd R0 (Tr.gd ⟨rfl, by have := ge_pos (N := 49) (k := 7 * i + j) (by decide) (by omega); rw [nI_clamp (by omega)] at this; exact this⟩ (Tr.ite (fun g => ?_) (fun g => ?_)))
        · have g : nI (i + j) ≤ nI 3 := g
          rw [nI_leI (by omega) (by decide)] at g
          obtain ⟨v1, v2, v3, v4⟩ := ns_b i hi j (by omega) g
          have v5 := ns_l i hi j (by omega) g
          rw [r_place g, obn_s, r_down1 ((hb _).up (by decide)), obn_s, nI_clamp (n := sl i j) (by omega), n10, n11]
          have lo : accL X i + sumN (gLo X i) (j + 1) = accL X i + sumN (gLo X i) j := by rw [sumN]; unfold gLo; rw [if_neg (by omega), Int64.add_zero]
          have hi' : accH X i + sumN (gHi X i) (j + 1) = accH X i + sumN (gHi X i) j := by rw [sumN]; unfold gHi; rw [if_neg (by omega), Int64.add_zero]
          have nx : ∀ σ2, Fr (fun x => x = 14) σ0 σ2 → rv σ2 14 = pqV (rv σ1 14) (sl i j) (X (7 * i + j)) 1000 → Tr (bnd (nI j + (1 : Int32)) fun x124 => f_X7_productOf_L56 K' n 0 a b to c1 c2 c3 c4 (accL X i + sumN (gLo X i) j) (accH X i + sumN (gHi X i) j) (nI i) x124 σ2) Q := by
            intro σ2 hF2 h6
            refine Tr.bnd ?_
            rw [nI_1, ← lo, ← hi']
            refine ih (j + 1) σ2 (by omega) (by omega) hF2 ?_
            rw [h6, h5, v1, v2, qs, v3]
          have hF1 := hF.tr (Fr_J (σ := σ1) (p := 14) (k := sl i j) (x := fdv (X (7 * i + j)) 1000) (S := fun x => x = 14) rfl)
          refine Tr.gd ⟨rfl, by have := ge_pos (N := 12) (k := sl i j) (by decide) (by omega); rw [nI_clamp (by omega)] at this; exact this⟩ (Tr.bnd (Tr.ite (fun q => ?_) (fun q => ?_)))
          · refine nx _ hF1 ?_
            rw [rv_J (by omega)]; unfold pqV; rw [if_pos ((fdv_rem ((hb _).up (by decide)) d1000.1 d1000.2.1).mpr q)]
          · have nq : ¬ fdv (X (7 * i + j)) 1000 * 1000 = X (7 * i + j) := fun t => q ((fdv_rem ((hb _).up (by decide)) d1000.1 d1000.2.1).mp t)
            have fin : ∀ l, l = LWm (sl i j) → Tr (bnd (sJ (sJ σ1 14 (sl i j) (fdv (X (7 * i + j)) 1000)) 14 10 ((sJ σ1 14 (sl i j) (fdv (X (7 * i + j)) 1000)).2 14 10 + l)) fun σ99 => gd (kR 0 = (0, 7)) <| gd ((kR (rR 0 13)).1 = 2 ∧ ¬ ((11 : Int32) < 0 ∨ (kR (rR 0 13)).2 ≤ (11 : Int32).toNatClampNeg)) <| bnd (sJ σ99 (rR 0 13) (11 : Int32).toNatClampNeg ((σ99.2 (rR 0 13) (11 : Int32).toNatClampNeg) + (1 : Int64))) fun σ102 => bnd (nI j + (1 : Int32)) fun x103 => f_X7_productOf_L56 K' n 0 a b to c1 c2 c3 c4 (accL X i + sumN (gLo X i) j) (accH X i + sumN (gHi X i) j) (nI i) x103 σ102) Q := by
              intro l hl
              rw [R14.1, n11]
              refine Tr.bnd (Tr.gd R0 (Tr.gd (r_gd11 i14) (Tr.bnd (nx _ ((hF1.tr (Fr_J rfl)).tr (Fr_J rfl)) ?_))))
              rw [rv_J (k := 11) (by decide), rv_J (k := 10) (by decide), rv_J (k := sl i j) (by omega), rv_at (show 10 < 12 by decide), rv_at (show 11 < 12 by decide), rv_J (k := 10) (by decide), rv_J (k := sl i j) (by omega), hl]
              unfold pqV
              rw [if_neg nq, setV_ne (show (10 : Nat) ≠ sl i j by omega), setV_ne (show (11 : Nat) ≠ 10 by decide), setV_ne (show (11 : Nat) ≠ sl i j by omega)]
            have g10 : (2, 12).1 = 2 ∧ ¬ ((10 : Int32) < 0 ∨ (2, 12).2 ≤ 10) := by decide
            by_cases hz : i = 0 ∧ j = 0
            · rw [if_pos hz] at v5
              obtain ⟨rfl, rfl⟩ := hz
              refine Tr.gd g10 (Tr.bnd (Tr.bnd ?_))
              rw [if_pos nI_0, if_pos nI_0]
              refine Tr.gd (r_gd10 i14) ?_
              rw [n10]
              exact fin 0 v5.symm
            · rw [if_neg hz] at v5
              refine Tr.gd g10 (Tr.bnd (Tr.bnd ?_))
              have tl : Tr (obn (f_X7_low (1 : Int64) (nI i) (nI j) (sJ σ1 14 (sl i j) (fdv (X (7 * i + j)) 1000))) fun x122 σ121 => gd ((kR 14).1 = 2 ∧ ¬ ((10 : Int32) < 0 ∨ (kR 14).2 ≤ (10 : Int32).toNatClampNeg)) <| bnd (sJ σ121 14 (10 : Int32).toNatClampNeg ((sJ σ1 14 (sl i j) (fdv (X (7 * i + j)) 1000)).2 14 10 + x122)) fun σ99 => gd (kR 0 = (0, 7)) <| gd ((kR (rR 0 13)).1 = 2 ∧ ¬ ((11 : Int32) < 0 ∨ (kR (rR 0 13)).2 ≤ (11 : Int32).toNatClampNeg)) <| bnd (sJ σ99 (rR 0 13) (11 : Int32).toNatClampNeg ((σ99.2 (rR 0 13) (11 : Int32).toNatClampNeg) + (1 : Int64))) fun σ102 => bnd (nI j + (1 : Int32)) fun x103 => f_X7_productOf_L56 K' n 0 a b to c1 c2 c3 c4 (accL X i + sumN (gLo X i) j) (accH X i + sumN (gHi X i) j) (nI i) x103 σ102) Q := by
                rw [r_low (by omega) (by omega), obn_s, n10]
                exact Tr.gd (by rw [i14]; decide) (fin _ v5.symm)
              by_cases hi0 : i = 0
              · rw [if_pos (by rw [hi0]; exact nI_0), if_neg (show ¬ nI j = 0 from fun t => hz ⟨hi0, (nI_eq (b := 0) (by omega) (by decide)).mp t⟩)]
                exact tl
              · rw [if_neg (show ¬ nI i = 0 from fun t => hi0 ((nI_eq (b := 0) (by omega) (by decide)).mp t))]
                exact tl
        · have g : ¬ nI (i + j) ≤ nI 3 := g
          rw [nI_leI (by omega) (by decide)] at g
          rw [r_low (by omega) (by omega), obn_s]
          refine Tr.bnd ?_
          rw [r_high (by omega) (by omega) ((hb _).up (by decide)), obn_s]
          refine Tr.bnd (Tr.bnd ?_)
          rw [nI_1, Int64.add_assoc, Int64.add_assoc]
          have lo : sumN (gLo X i) j + mnJ (X (7 * i + j) * (lI (nI i) (nI j)).toInt64) (X (7 * i + j)) = sumN (gLo X i) (j + 1) := by rw [sumN, gLo, if_pos (by omega), e7]
          have hi' : sumN (gHi X i) j + mxJ (X (7 * i + j) * (lI (nI i) (nI j)).toInt64) (X (7 * i + j)) = sumN (gHi X i) (j + 1) := by rw [sumN, gHi, if_pos (by omega), e7]
          rw [lo, hi']
          exact ih (j + 1) σ1 (by omega) (by omega) hF (by rw [h5, ns_c i hi j (by omega) (by omega) (by omega)])
  have outer : ∀ n i (σ1 : St), i ≤ 7 → 7 < n + i → Fr (fun x => x = 14) σ0 σ1 → rv σ1 14 = qs X (cst 0) (ns i 0) → Tr (f_X7_productOf_L46 K n 0 a b to c1 c2 c3 c4 (accL X i) (accH X i) (nI i) σ1) Q := by
    intro n
    induction n with
    | zero => intro i σ1 h1 h2; omega
    | succ n ih =>
      intro i σ1 h1 h2 hF h5
      rw [f_X7_productOf_L46]
      refine Tr.ite (fun h => ?_) (fun h => ?_)
      · rw [seven_le (by omega)] at h
        have : i = 7 := by omega
        subst this
        exact hK σ1 hF h5
      · rw [seven_le (by omega)] at h
        have k : ∀ K', (∀ σ2, Fr (fun x => x = 14) σ0 σ2 → rv σ2 14 = qs X (cst 0) (ns (i + 1) 0) → Tr (K' 0 a b to c1 c2 c3 c4 (accL X (i + 1)) (accH X (i + 1)) (nI i) σ2) Q) → Tr (f_X7_productOf_L56 K' FU 0 a b to c1 c2 c3 c4 (accL X i) (accH X i) (nI i) 0 σ1) Q := by
          intro K' hk
          have k := inner K' i (by omega) hk FU 0 σ1 (Nat.zero_le _) (by show 7 - i < 4096 + 0; omega) hF h5
          rw [sumN, sumN, Int64.add_zero, Int64.add_zero] at k
          exact k
        refine k _ (fun σ2 hF2 h6 => Tr.bnd ?_)
        rw [nI_1]
        exact ih (i + 1) σ2 (by omega) (by omega) hF2 h6
  exact outer FU 0 σ0 (by decide) (by decide) Fr.rf h0
theorem r_least {p q r s : Int64} : f_X7_leastProduct p q r s σ = some (ipL p q r s, σ) := by
  unfold f_X7_leastProduct ipL
  rw [r_smaller, obn_s, r_smaller, obn_s, r_smaller, obn_s, mn_sm, mn_sm, mn_sm]
theorem r_greatest {p q r s : Int64} : f_X7_greatestProduct p q r s σ = some (ipH p q r s, σ) := by
  unfold f_X7_greatestProduct ipH
  rw [r_greater, obn_s, r_greater, obn_s, r_greater, obn_s]
  rfl
theorem r_productOf (ha : isR a) (hb : isR b) (ht : isR to) (a14 : a ≠ 14) (b14 : b ≠ 14) (fa : fitN (rv σ a) 12) (fb : fitN (rv σ b) 12) :
    Tr (f_X7_productOf 0 a b to σ) (fun r σ' => rv σ' to = mulW (rv σ a) (rv σ b) ∧ r = bI (fitN (rv σ' to) 12) ∧ Fr (fun x => x = 13 ∨ x = 14 ∨ x = to) σ σ') := by
  have i14 : isR 14 := R14.2
  unfold f_X7_productOf
  refine Tr.gd R0 (Tr.obn ((r_lay ha hb).mono (fun _ σ1 h1 => ?_)))
  obtain ⟨h1, hF1⟩ := h1
  have ea1 := hF1.r1 ha.n13
  have eb1 := hF1.r1 hb.n13
  rw [r_spreadLow ha, obn_s, ea1, r_spreadHigh ha (by rw [ea1]; exact fit_bd' fa), obn_s, r_spreadLow hb, obn_s, eb1, r_spreadHigh hb (by rw [eb1]; exact fit_bd' fb), obn_s, ea1, eb1, R14.1]
  refine Tr.obn ((r_clearRow i14).mono (fun _ σ2 h2 => ?_))
  obtain ⟨h2, hF2⟩ := h2
  refine r_mulLoop (X := pr (rv σ a) (rv σ b)) (fun i hi => by rw [hF2.2 13 (by decide)]; exact h1 i hi) (pr_bd fa fb) h2 (fun σ3 hF3 h3 => ?_)
  have ea3 : rv σ3 a = rv σ a := by rw [hF3.r1 a14, hF2.r1 a14, ea1]
  have eb3 : rv σ3 b = rv σ b := by rw [hF3.r1 b14, hF2.r1 b14, eb1]
  have m := mLo_bd fa fb
  rw [n10, n11, r_least, obn_s, r_least, obn_s, r_least, obn_s, bnd_s, r_greatest, obn_s, r_greatest, obn_s, r_greatest, obn_s, rv_at (r := a) (show 10 < 12 by decide), rv_at (r := a) (show 11 < 12 by decide), rv_at (r := b) (show 10 < 12 by decide), rv_at (r := b) (show 11 < 12 by decide), ea3, eb3, bnd_s]
  have eL : tLo (pr (rv σ a) (rv σ b)) + (ipL (sLo (rv σ a)) (sHi (rv σ a)) (rv σ b 10) (rv σ b 11) + ipL (rv σ a 10) (rv σ a 11) (sLo (rv σ b)) (sHi (rv σ b)) + ipL (rv σ a 10) (rv σ a 11) (rv σ b 10) (rv σ b 11)) = mLo (rv σ a) (rv σ b) := by
    unfold mLo; rw [← Int64.add_assoc, ← Int64.add_assoc]
  have eH : tHi (pr (rv σ a) (rv σ b)) + (ipH (sLo (rv σ a)) (sHi (rv σ a)) (rv σ b 10) (rv σ b 11) + ipH (rv σ a 10) (rv σ a 11) (sLo (rv σ b)) (sHi (rv σ b)) + ipH (rv σ a 10) (rv σ a 11) (rv σ b 10) (rv σ b 11)) = mHi (rv σ a) (rv σ b) := by
    unfold mHi; rw [← Int64.add_assoc, ← Int64.add_assoc]
  rw [eL, eH, r_down1 (m.1.up (by decide)), obn_s, R14.1]
  have ga := r_gd10 ha
  have ga' := r_gd11 ha
  have gb := r_gd10 hb
  have gb' := r_gd11 hb
  have g14 := r_gd10 i14
  have g14' := r_gd11 i14
  rw [n10] at ga gb g14
  rw [n11] at ga' gb' g14'
  refine Tr.gd gb (Tr.gd gb' (Tr.gd ga (Tr.gd ga' (Tr.gd R0 (Tr.gd g14 (Tr.bnd (Tr.gd g14' ?_)))))))
  rw [r_up1 (m.2.up (by decide)), obn_s]
  refine Tr.bnd (Tr.obn ((r_copyRow i14 ht).mono (fun _ σ4 h4 => ?_)))
  obtain ⟨h4, hF4⟩ := h4
  rw [rv_J (by decide), rv_J (by decide), rv_at (r := 14) (show 10 < 12 by decide), rv_at (r := 14) (show 11 < 12 by decide), rv_J (by decide), h3, setV_ne (show (11 : Nat) ≠ 10 by decide)] at h4
  have h4 : rv σ4 to = mulW (rv σ a) (rv σ b) := h4.trans mulW_LH
  rw [r_isSmall ht, obn_s]
  refine Tr.gd bI_01 (Tr.ret ⟨h4, rfl, ?_⟩)
  have w : ∀ {σ5 σ6 : St}, Fr (fun x => x = 14) σ5 σ6 → Fr (fun x => x = 13 ∨ x = 14 ∨ x = to) σ5 σ6 := fun h => h.weak (fun _ t => Or.inr (Or.inl t))
  exact (((((hF1.weak (fun _ t => Or.inl t)).tr (w hF2)).tr (w hF3)).tr (Fr_J (Or.inr (Or.inl rfl)))).tr (Fr_J (Or.inr (Or.inl rfl)))).tr (hF4.weak (fun _ t => Or.inr (Or.inr t)))
end PROD
