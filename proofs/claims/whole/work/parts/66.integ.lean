/-! INTEGRALS, of the reference -/
theorem R17 : rR 0 16 = 17 ∧ kR 17 = (2, 12) := by decide +kernel
theorem itV_LH {w : V} {c A B : Int64} {a b d : Nat} (ha : a < 5) (hb : b < 5) : itV (addLH w A B) c a b d = addLH (itV w c a b d) A B := by
  unfold itV
  by_cases h : a + b ≤ 3
  · rw [if_pos h, if_pos h, pqV_LH (sl_lt a ha b hb h)]
  · rw [if_neg h, if_neg h, show addLH w A B 10 = w 10 + A from rfl, show addLH w A B 11 = w 11 + B from rfl]
    funext j
    unfold addLH setV
    by_cases j11 : j = 11
    · subst j11; simp only [if_true]; rw [Int64.sub_eq_add_neg, Int64.sub_eq_add_neg]; exact add_r _ _ _
    · by_cases j10 : j = 10
      · subst j10; simp only [if_true, if_neg (show ¬ (10 : Nat) = 11 by decide)]; exact add_r _ _ _
      · simp only [j11, j10, if_false]
theorem widV_LH {w : V} {m : Int64} : widV w m = addLH w (-m) m := by unfold widV addLH; rw [Int64.sub_eq_add_neg]
theorem iIJ_ok {v : Int32} {k : Nat} (hk : k < 10) : iI v k < 5 ∧ iJ v k < 5 ∧ 0 < iD v k ∧ iD v k < 5 ∧ 1 ≤ iI v k + iJ v k := by
  obtain ⟨-, -, x1, x2, x3⟩ := px_ok k hk
  unfold iI iJ iD
  by_cases h : v = 0
  · rw [if_pos h, if_pos h, if_pos h]; omega
  · rw [if_neg h, if_neg h, if_neg h]; omega
theorem intN_LH {p w : V} {v : Int32} {A B : Int64} : ∀ {n : Nat}, n ≤ 10 → intN p v (addLH w A B) n = addLH (intN p v w n) A B
  | 0, _ => rfl
  | n + 1, h => by
    have z := iIJ_ok (v := v) (k := n) (by omega)
    rw [intN, intN, intN_LH (by omega), itV_LH z.1 z.2.1]
theorem ab_gr {x : Int64} (h : fit1 x) : (if -x < x then x else -x) = abJ x := by
  have b := fit1_bd h
  have e := i64_neg (x := x) (by have := b.1; omega)
  unfold abJ
  by_cases g : 0 < x
  · rw [if_pos g, if_pos (by rw [Int64.lt_iff_toInt_lt, Int64.toInt_zero] at g; rw [Int64.lt_iff_toInt_lt, e]; omega)]
  · rw [if_neg g, if_neg (fun t => g (by rw [Int64.lt_iff_toInt_lt, e] at t; rw [Int64.lt_iff_toInt_lt, Int64.toInt_zero]; omega))]
theorem hi1_ok : ∀ a, a < 5 → ∀ b, b < 5 → mxJ (1 * (lI (nI a) (nI b)).toInt64) 1 = 1 := by decide +kernel
theorem lo1_ok : ∀ a, a < 5 → ∀ b, b < 5 → (a + b ≤ 3 → 1 ≤ a + b → LWm (sl a b) = mnJ (1 * (lI (nI a) (nI b)).toInt64) 1) := by decide +kernel
theorem lN_d : ∀ d, d < 5 → 0 < d → (0 : Int) < (lN d).toInt ∧ (lN d).toInt < 2 ^ 31 ∧ ¬ lN d = 0 := by decide +kernel
section RINT
variable {a to : Nat} {σ : St}
theorem r_intLoop {K : Nat → Nat → Nat → St → Option (Int32 × St)} {Q : Int32 → St → Prop} {v : Int32} {σ0 : St} (hv : v = 0 ∨ v = 1) (ha : isR a) (a17 : a ≠ 17) (fa : fitN (rv σ0 a) 12)
    (hK : ∀ σ1, rv σ1 17 = intN (rv σ0 a) v (cst 0) 10 → Fr (fun x => x = 17) σ0 σ1 → Tr (K 0 a to σ1) Q) (hw : rv σ 17 = cst 0) (hF : Fr (fun x => x = 17) σ0 σ) : Tr (f_X7_integralOf_L10 K FU 0 a v to 0 σ) Q := by
  have i17 : isR 17 := R17.2
  have key : ∀ n k (σ1 : St), k ≤ 10 → 10 < n + k → Fr (fun x => x = 17) σ0 σ1 → rv σ1 17 = intN (rv σ0 a) v (cst 0) k → Tr (f_X7_integralOf_L10 K n 0 a v to (nI k) σ1) Q := by
    intro n
    induction n with
    | zero => intro k σ1 h1 h2; omega
    | succ n ih =>
      intro k σ1 h1 h2 hF1 h5
      rw [f_X7_integralOf_L10]
      refine Tr.ite (fun h => ?_) (fun h => ?_)
      · rw [ten_le (by omega)] at h
        have : k = 10 := by omega
        subst this
        exact hK σ1 h5 hF1
      · rw [ten_le (by omega)] at h
        have hk : k < 10 := by omega
        obtain ⟨zi, zj, zd, zd5, z1⟩ := iIJ_ok (v := v) hk
        have ek : ∀ σ2, Fr (fun x => x = 17) σ0 σ2 → σ2.2 a k = rv σ0 a k := fun σ2 h => by rw [rv_at (show k < 12 by omega), h.r1 a17]
        have fk := fa k (by omega)
        have bk := fit1_bd fk
        obtain ⟨d1, d2, d3⟩ := lN_d _ zd5 zd
        have ga := r_gd ha (show k < 12 by omega)
        have g10 := r_gd10 i17
        have g11 := r_gd11 i17
        rw [r_iOf hk, obn_s, bnd_s, r_jOf hk, obn_s, bnd_s, bnd_s]
        have body : ∀ d, d = nI (iD v k) → Tr (if (nI (iI v k) + nI (iJ v k)) ≤ (3 : Int32) then (gd (kR 0 = (0, 7)) <| obn (f_X7_place (nI (iI v k)) (nI (iJ v k)) σ1) fun x35 σ34 => gd ((kR a).1 = 2 ∧ ¬ (nI k < 0 ∨ (kR a).2 ≤ (nI k).toNatClampNeg)) <| obn (f_X7_down (σ34.2 a (nI k).toNatClampNeg) (d.toInt64) σ34) fun x39 σ38 => gd ((kR (rR 0 16)).1 = 2 ∧ ¬ (x35 < 0 ∨ (kR (rR 0 16)).2 ≤ x35.toNatClampNeg)) <| bnd (sJ σ38 (rR 0 16) x35.toNatClampNeg x39) fun σ42 => gd (¬ d.toInt64 = 0) <| if ((σ42.2 a (nI k).toNatClampNeg) - (σ42.2 a (nI k).toNatClampNeg) / d.toInt64 * d.toInt64) = (0 : Int64) then (bnd (nI k + (1 : Int32)) fun x55 => f_X7_integralOf_L10 K n 0 a v to x55 σ42) else (gd ((kR (rR 0 16)).1 = 2 ∧ ¬ ((10 : Int32) < 0 ∨ (kR (rR 0 16)).2 ≤ (10 : Int32).toNatClampNeg)) <| obn (f_X7_low (1 : Int64) (nI (iI v k)) (nI (iJ v k)) σ42) fun x46 σ45 => bnd (sJ σ45 (rR 0 16) (10 : Int32).toNatClampNeg ((σ42.2 (rR 0 16) (10 : Int32).toNatClampNeg) + x46)) fun σ48 => gd ((kR (rR 0 16)).1 = 2 ∧ ¬ ((11 : Int32) < 0 ∨ (kR (rR 0 16)).2 ≤ (11 : Int32).toNatClampNeg)) <| obn (f_X7_high (1 : Int64) (nI (iI v k)) (nI (iJ v k)) σ48) fun x51 σ50 => bnd (sJ σ50 (rR 0 16) (11 : Int32).toNatClampNeg ((σ48.2 (rR 0 16) (11 : Int32).toNatClampNeg) + x51)) fun σ53 => bnd (nI k + (1 : Int32)) fun x54 => f_X7_integralOf_L10 K n 0 a v to x54 σ53)) else (gd (kR 0 = (0, 7)) <| gd ((kR (rR 0 16)).1 = 2 ∧ ¬ ((10 : Int32) < 0 ∨ (kR (rR 0 16)).2 ≤ (10 : Int32).toNatClampNeg)) <| gd ((kR a).1 = 2 ∧ ¬ (nI k < 0 ∨ (kR a).2 ≤ (nI k).toNatClampNeg)) <| obn (f_X7_low (σ1.2 a (nI k).toNatClampNeg) (nI (iI v k)) (nI (iJ v k)) σ1) fun x60 σ59 => obn (f_X7_down x60 (d.toInt64) σ59) fun x63 σ62 => bnd (sJ σ62 (rR 0 16) (10 : Int32).toNatClampNeg ((σ1.2 (rR 0 16) (10 : Int32).toNatClampNeg) + x63)) fun σ65 => gd ((kR (rR 0 16)).1 = 2 ∧ ¬ ((11 : Int32) < 0 ∨ (kR (rR 0 16)).2 ≤ (11 : Int32).toNatClampNeg)) <| obn (f_X7_high (σ65.2 a (nI k).toNatClampNeg) (nI (iI v k)) (nI (iJ v k)) σ65) fun x68 σ67 => obn (f_X7_up x68 (d.toInt64) σ67) fun x71 σ70 => bnd (sJ σ70 (rR 0 16) (11 : Int32).toNatClampNeg ((σ65.2 (rR 0 16) (11 : Int32).toNatClampNeg) + x71)) fun σ73 => bnd (nI k + (1 : Int32)) fun x74 => f_X7_integralOf_L10 K n 0 a v to x74 σ73)) Q := by
          intro d hd
          subst hd
          rw [nI_add, nI_l (show iD v k < 2 ^ 31 by omega), R17.1, n10, n11]
          rw [n10] at g10
          rw [n11] at g11
          have nx : ∀ σ2, Fr (fun x => x = 17) σ0 σ2 → rv σ2 17 = itV (rv σ1 17) (rv σ0 a k) (iI v k) (iJ v k) (iD v k) → Tr (bnd (nI k + (1 : Int32)) fun x55 => f_X7_integralOf_L10 K n 0 a v to x55 σ2) Q := by
            intro σ2 hF2 h6
            refine Tr.bnd ?_
            rw [nI_1]
            exact ih (k + 1) σ2 (by omega) (by omega) hF2 (by rw [h6, h5, intN])
          by_cases g : iI v k + iJ v k ≤ 3
          · have hs := sl_lt _ zi _ zj g
            rw [if_pos (show nI (iI v k + iJ v k) ≤ (3 : Int32) from (nI_leI (by omega) (by decide)).mpr g), r_place g, obn_s, nI_clamp (n := k) (by omega), ek σ1 hF1]
            unfold itV at nx
            rw [if_pos g] at nx
            have hF2 := hF1.tr (Fr_J (σ := σ1) (p := 17) (k := sl (iI v k) (iJ v k)) (x := fdv (rv σ0 a k) (lN (iD v k))) (S := fun x => x = 17) rfl)
            refine Tr.gd R0 (Tr.gd (by rw [nI_clamp (by omega)] at ga; exact ga) ?_)
            rw [r_down (bk.up (by decide)) d1 d2, obn_s]
            refine Tr.gd (r_gd i17 (by omega)) (Tr.bnd (Tr.gd d3 ?_))
            rw [nI_clamp (n := sl (iI v k) (iJ v k)) (by omega), ek _ hF2]
            refine Tr.ite (fun q => ?_) (fun q => ?_)
            · refine nx _ hF2 ?_
              rw [rv_J (by omega)]; unfold pqV; rw [if_pos ((fdv_rem (bk.up (by decide)) d1 d2).mpr q)]
            · have nq : ¬ fdv (rv σ0 a k) (lN (iD v k)) * lN (iD v k) = rv σ0 a k := fun t => q ((fdv_rem (bk.up (by decide)) d1 d2).mp t)
              refine Tr.gd g10 ?_
              rw [r_low (by omega) (by omega), obn_s]
              refine Tr.bnd (Tr.gd g11 ?_)
              rw [r_high (by omega) (by omega) (by unfold bdd; decide), obn_s]
              refine Tr.bnd (nx _ ((hF2.tr (Fr_J rfl)).tr (Fr_J rfl)) ?_)
              rw [hi1_ok _ zi _ zj, ← lo1_ok _ zi _ zj g z1]
              rw [rv_J (k := 11) (by decide), rv_J (k := 10) (by decide), rv_J (k := sl (iI v k) (iJ v k)) (by omega), rv_at (show 10 < 12 by decide), rv_at (show 11 < 12 by decide), rv_J (k := 10) (by decide), rv_J (k := sl (iI v k) (iJ v k)) (by omega)]
              unfold pqV
              rw [if_neg nq, setV_ne (show (10 : Nat) ≠ sl (iI v k) (iJ v k) by omega), setV_ne (show (11 : Nat) ≠ 10 by decide), setV_ne (show (11 : Nat) ≠ sl (iI v k) (iJ v k) by omega)]
          · rw [if_neg (show ¬ nI (iI v k + iJ v k) ≤ (3 : Int32) from fun t => g ((nI_leI (by omega) (by decide)).mp t)), r_low (by omega) (by omega), obn_s, nI_clamp (n := k) (by omega), ek σ1 hF1]
            unfold itV at nx
            rw [if_neg g] at nx
            have bl : bdd 100000000 (mnJ (rv σ0 a k * (lI (nI (iI v k)) (nI (iJ v k))).toInt64) (rv σ0 a k)) := bdd.mn (bk.lI (by decide) lI_3) bk
            have bh : bdd 100000000 (mxJ (rv σ0 a k * (lI (nI (iI v k)) (nI (iJ v k))).toInt64) (rv σ0 a k)) := bdd.mx (bk.lI (by decide) lI_3) bk
            rw [r_down (bl.up (by decide)) d1 d2, obn_s]
            refine Tr.gd R0 (Tr.gd g10 (Tr.gd (by rw [nI_clamp (by omega)] at ga; exact ga) (Tr.bnd (Tr.gd g11 ?_))))
            have hF2 := hF1.tr (Fr_J (σ := σ1) (p := 17) (k := 10) (x := σ1.2 17 10 + fdv (mnJ (rv σ0 a k * (lI (nI (iI v k)) (nI (iJ v k))).toInt64) (rv σ0 a k)) (lN (iD v k))) (S := fun x => x = 17) rfl)
            rw [ek _ hF2, r_high (by omega) (by omega) (bk.up (by decide)), obn_s, r_up (bh.up (by decide)) d1 d2, obn_s]
            refine Tr.bnd (nx _ (hF2.tr (Fr_J rfl)) ?_)
            rw [rv_J (k := 11) (by decide), rv_J (k := 10) (by decide), rv_at (show 10 < 12 by decide), rv_at (show 11 < 12 by decide), rv_J (k := 10) (by decide), setV_ne (show (11 : Nat) ≠ 10 by decide), ← Int64.sub_eq_add_neg]
        rcases hv with rfl | rfl
        · have e1 : nI (PX k) + 1 - 0 = nI (iI 0 k) := by rw [nI_1, Int32.sub_zero]; rfl
          have e2 : nI (PY k) + 0 = nI (iJ 0 k) := by rw [Int32.add_zero]; rfl
          rw [e1, e2]
          exact body _ rfl
        · have e1 : nI (PX k) + 1 - 1 = nI (iI 1 k) := by rw [Int32.add_sub_cancel]; rfl
          have e2 : nI (PY k) + 1 = nI (iJ 1 k) := by rw [nI_1]; rfl
          rw [e1, e2]
          exact body _ rfl
  exact key FU 0 σ (by decide) (by decide) hF hw
theorem r_integralOf {v : Int32} (hv : v = 0 ∨ v = 1) (ha : isR a) (a17 : a ≠ 17) (ht : isR to) (fa : fitN (rv σ a) 12) :
    Tr (f_X7_integralOf 0 a v to σ) (fun r σ' => rv σ' to = intV v (rv σ a) ∧ r = bI (fitN (rv σ' to) 12) ∧ Fr (fun x => x = 17 ∨ x = to) σ σ') := by
  have i17 : isR 17 := R17.2
  unfold f_X7_integralOf
  rw [R17.1]
  refine Tr.gd R0 (Tr.obn ((r_clearRow i17).mono (fun _ σ1 h1 => ?_)))
  obtain ⟨h1, hF1⟩ := h1
  refine r_intLoop (σ0 := σ) hv ha a17 fa (fun σ2 h2 hF2 => ?_) h1 hF1
  have ea : rv σ2 a = rv σ a := hF2.r1 a17
  have g10 := r_gd10 i17
  have g11 := r_gd11 i17
  have ga := r_gd10 ha
  have ga' := r_gd11 ha
  rw [n10] at g10 ga
  rw [n11] at g11 ga'
  rw [n10, n11, r_greater, obn_s, r_greater, obn_s, r_greater, obn_s, R17.1, rv_at (r := a) (show 10 < 12 by decide), rv_at (r := a) (show 11 < 12 by decide), ea, ab_gr (fa 10 (by decide)), ab_gr (fa 11 (by decide)), mx_gr]
  refine Tr.gd ga (Tr.gd ga' (Tr.gd R0 (Tr.gd g10 (Tr.bnd (Tr.gd g11 (Tr.bnd (Tr.obn ((r_copyRow i17 ht).mono (fun _ σ3 h3 => ?_)))))))))
  obtain ⟨h3, hF3⟩ := h3
  rw [rv_J (k := 11) (by decide), rv_J (k := 10) (by decide), rv_at (show 10 < 12 by decide), rv_at (show 11 < 12 by decide), rv_J (k := 10) (by decide), setV_ne (show (11 : Nat) ≠ 10 by decide), h2] at h3
  rw [r_isSmall ht, obn_s]
  refine Tr.gd bI_01 (Tr.ret ⟨?_, rfl, ?_⟩)
  · rw [h3]
    unfold intV
    rw [widV_LH, intN_LH (Nat.le_refl 10), ← widV_LH]
    rfl
  · exact (((hF2.weak (fun _ t => Or.inl t)).tr (Fr_J (Or.inl rfl))).tr (Fr_J (Or.inl rfl))).tr (hF3.weak (fun _ t => Or.inr t))
end RINT
